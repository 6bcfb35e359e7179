import java.util.Arrays;

/**
 * A beam on supports with points and spreads of load: shear, moment and sag, exactly, as fractions
 * in lowest terms. What each call promises is told in the document; no call throws, and no call
 * makes an object, for all calls of a run share one room.
 */
public final class BeamPieces {
    public static final int BAD = -1, NOT = -2, FULL = -3, STATE = -6;
    public static final long NO = Long.MIN_VALUE;

    private static final int NOTHING = -11, BEYOND = -13, BELOW = -14;
    private static final int FINE = 0;

    private static final int LEAST_LENGTH = 2, FIRST_LENGTH = 8, MOST_LENGTH = 10;
    private static final int PLACES = MOST_LENGTH + 1;
    private static final int MOST_SUPPORTS = 4, MOST_LOADS = 6, MOST_AXLES = 3;
    private static final int MOST_V = 9, MOST_BEHIND = 9, MOST_WEIGHT = 9, MOST_FRONT = 19;
    private static final int MOST_CHANGES = 10, MOST_TAPE = 120, MOST_PAPER = 1000;
    private static final int LISTS = 3, MOST_ROW = 24;
    private static final int MOST_PARTS = 100, MOST_TOLD = 9999, MOST_TIMES = 99;
    private static final int ENDS_AHEAD = 100;
    private static final int NO_TEXT = -1000, REFUSED_TEXT = -2000;
    private static final int WORD_BEAM = 0, WORD_SUPPORT = 1, WORD_HINGE = 2, WORD_POINT = 3;
    private static final int WORD_SPREAD = 4, WORD_AXLE = 5, WORDS = 6;
    private static final int MOST_NUMBERS = 3;
    /** Euclid's steps for two longs stay below this. */
    private static final int MOST_STEPS = 200;
    private static final int MOST_FIGURES = 20;

    private final Beam beam = new Beam();
    private final Changes changes = new Changes();
    private final Beam kept = new Beam();
    private boolean hasImage;
    private final Statics statics = new Statics();
    private final Fraction answer = new Fraction();
    private final Fraction rival = new Fraction();
    private final Reader reader = new Reader();
    private final Paper sheet = new Paper();
    private final Rows rows = new Rows();

    public BeamPieces() {
    }

    // ---- the beam

    public int beam(int length) {
        if (beam.whyNotLength(length) != FINE) {
            return BAD;
        }
        int was = beam.length;
        beam.clear(length);
        changes.forget();
        return was;
    }

    public int support(int place) {
        int refused = beam.whyNotSupport(place);
        if (refused != FINE) {
            return refused;
        }
        changes.keep(beam);
        return beam.putSupport(place);
    }

    public int drop(int place) {
        int refused = beam.whyNotAtSupport(place);
        if (refused != FINE) {
            return refused;
        }
        changes.keep(beam);
        return beam.takeSupport(beam.numberAt(place));
    }

    public int hinge(int place, int is) {
        if (is != 0 && is != 1) {
            return BAD;
        }
        int refused = beam.whyNotAtSupport(place);
        if (refused != FINE) {
            return refused;
        }
        changes.keep(beam);
        return beam.putHinge(beam.numberAt(place), is);
    }

    public int point(int place, int v) {
        int refused = beam.whyNotPoint(place, v);
        if (refused != FINE) {
            return refused;
        }
        changes.keep(beam);
        return beam.putLoad(place, place, v, 1);
    }

    public int spread(int from, int to, int v) {
        int refused = beam.whyNotSpread(from, to, v);
        if (refused != FINE) {
            return refused;
        }
        changes.keep(beam);
        return beam.putLoad(from, to, v, 0);
    }

    public int heavier(int load, int v) {
        if (!beam.isLoad(load) || !isV(v)) {
            return BAD;
        }
        changes.keep(beam);
        int was = beam.v[load];
        beam.v[load] = v;
        return was;
    }

    public int lift(int load) {
        if (!beam.isLoad(load)) {
            return BAD;
        }
        changes.keep(beam);
        return beam.takeLoad(load);
    }

    public int axle(int behind, int weight) {
        int refused = beam.whyNotAxle(behind, weight);
        if (refused != FINE) {
            return refused;
        }
        changes.keep(beam);
        return beam.putAxle(behind, weight);
    }

    public int unhitch() {
        changes.keep(beam);
        int were = beam.axles;
        beam.axles = 0;
        return were;
    }

    public int loadOf(int load, int what) {
        if (!beam.isLoad(load)) {
            return BAD;
        }
        switch (what) {
            case 0: return beam.from[load];
            case 1: return beam.to[load];
            case 2: return beam.v[load];
            case 3: return beam.pointed[load];
            default: return BAD;
        }
    }

    public int supportOf(int k, int what) {
        if (!beam.isSupport(k)) {
            return BAD;
        }
        switch (what) {
            case 0: return beam.place[k];
            case 1: return beam.joint[k];
            default: return BAD;
        }
    }

    public int count(int what) {
        switch (what) {
            case 0: return beam.length;
            case 1: return beam.supports;
            case 2: return beam.loads;
            case 3: return beam.axles;
            case 4: return changes.size;
            case 5: return reader.size;
            case 6: return sheet.size;
            case 7: return beam.together();
            default: return BAD;
        }
    }

    // ---- what there is

    public long reaction(int k, int part) {
        if (!beam.stands() || !beam.isSupport(k) || !isPart(part)) {
            return NO;
        }
        solveAsItIs();
        return inLowest(statics.up[k], statics.below, part);
    }

    public long shear(int place, int part) {
        if (!beam.stands() || !beam.isPlace(place) || !isPart(part)) {
            return NO;
        }
        solveAsItIs();
        return inLowest(statics.cut[place], statics.below, part);
    }

    public long moment(int a, int b, int part) {
        if (!beam.stands() || !isPart(part) || b < 1 || b > MOST_PARTS) {
            return NO;
        }
        if (a < 0 || a > b * beam.length) {
            return NO;
        }
        solveAsItIs();
        statics.bendBetween(a, b, answer);
        return answer.told(part);
    }

    public long sag(int place, int part) {
        if (!beam.stands() || !beam.isPlace(place) || !isPart(part)) {
            return NO;
        }
        solveAsItIs();
        statics.findSags();
        return inLowest(statics.dip[place], statics.dipBelow, part);
    }

    public long greatest(int which, int what) {
        if (!beam.stands() || (which != 0 && which != 1) || what < 0 || what > 3) {
            return NO;
        }
        solveAsItIs();
        statics.findPeaks();
        Peak peak = which == 0 ? statics.top : statics.bottom;
        return what < 2 ? peak.much.told(what) : peak.where.told(what - 2);
    }

    public int lowest() {
        if (!beam.stands()) {
            return STATE;
        }
        solveAsItIs();
        statics.findSags();
        return statics.placeOfMostSag();
    }

    public int times(int most) {
        if (most < 0 || most > MOST_TOLD) {
            return BAD;
        }
        if (!beam.stands()) {
            return STATE;
        }
        solveAsItIs();
        statics.tellSpan(answer);
        return answer.above == 0 ? NOT : timesWithin(most);
    }

    // ---- in thought

    public long rolls(int place, int what) {
        if (!canRoll(what) || !beam.isPlace(place)) {
            return NO;
        }
        return mostByRolling(statics.bend, place, what);
    }

    public long presses(int k, int what) {
        if (!canRoll(what) || !beam.isSupport(k)) {
            return NO;
        }
        return mostByRolling(statics.up, k, what);
    }

    public long unit(int at, int place, int part) {
        if (!beam.stands() || !beam.isPlace(at) || !beam.isPlace(place) || !isPart(part)) {
            return NO;
        }
        solveUnit(at);
        return inLowest(statics.bend[place], statics.below, part);
    }

    public long bears(int at, int k, int part) {
        if (!beam.stands() || !beam.isPlace(at) || !beam.isSupport(k) || !isPart(part)) {
            return NO;
        }
        solveUnit(at);
        return inLowest(statics.up[k], statics.below, part);
    }

    public int best(int k) {
        if (!beam.isSupport(k)) {
            return BAD;
        }
        if (!beam.stands()) {
            return STATE;
        }
        int from = k == 0 ? 0 : beam.place[k - 1] + 1;
        int to = k == beam.supports - 1 ? beam.length : beam.place[k + 1] - 1;
        int found = from;
        for (int place = from; place <= to; place++) {
            statics.frame(beam);
            statics.place[k] = place;
            statics.bearLoads(beam);
            statics.solve();
            statics.tellSpan(answer);
            if (place == from || answer.against(rival) < 0) {
                rival.copy(answer);
                found = place;
            }
        }
        return found;
    }

    public long hinged(int k, int part) {
        if (!beam.stands() || !isPart(part) || k <= 0 || k >= beam.supports - 1 || beam.joint[k] != 0) {
            return NO;
        }
        statics.frame(beam);
        statics.joint[k] = 1;
        statics.bearLoads(beam);
        statics.solve();
        statics.tellSpan(answer);
        return answer.told(part);
    }

    // ---- texts

    public int feed(int letter) {
        if (letter < 1 || letter > 127) {
            return BAD;
        }
        return reader.take(letter);
    }

    public int reads() {
        int got = reader.readOnto(beam);
        if (got >= 0) {
            beam.become(reader.trial);
            changes.forget();
        }
        reader.size = 0;
        return got;
    }

    public int prints() {
        if (!beam.stands()) {
            return STATE;
        }
        solveAsItIs();
        sheet.size = 0;
        for (int k = 0; k < beam.length; k++) {
            printPiece(k);
        }
        return sheet.size;
    }

    public int paper(int i) {
        if (i < 0) {
            return BAD;
        }
        return i < sheet.size ? sheet.bytes[i] : NOT;
    }

    // ---- rows, changes, the image

    public int list(int list, int n) {
        if (!isList(list) || n > MOST_ROW) {
            return BAD;
        }
        if (n < 0) {
            return BELOW;
        }
        rows.begin(list, n);
        return 1;
    }

    public int set(int list, int i, long v) {
        if (!isList(list)) {
            return BAD;
        }
        if (!rows.isThere(list)) {
            return NOTHING;
        }
        if (!rows.has(list, i)) {
            return BEYOND;
        }
        rows.put(list, i, v);
        return 1;
    }

    public long get(int list, int i) {
        return rows.at(list, i);
    }

    public int into(int list, int p) {
        if (!isList(list)) {
            return BAD;
        }
        if (!beam.stands()) {
            return STATE;
        }
        if (!rows.isThere(list)) {
            return NOTHING;
        }
        if (p < 0) {
            return BEYOND;
        }
        solveAsItIs();
        int come = 0;
        for (int i = p; rows.has(list, i) && come < numbersInAll(); i++) {
            rows.put(list, i, numberOfMoments(come));
            come++;
        }
        return come;
    }

    public int judge(int list, int p) {
        if (!isList(list) || p < 0) {
            return BAD;
        }
        if (!beam.stands()) {
            return STATE;
        }
        if (!rows.isThere(list)) {
            return NOTHING;
        }
        solveAsItIs();
        int seen = 0;
        for (int i = p; rows.has(list, i) && seen < numbersInAll(); i++) {
            if (rows.at(list, i) != numberOfMoments(seen)) {
                return seen / 2;
            }
            seen++;
        }
        return seen == numbersInAll() ? NOT : ENDS_AHEAD + seen / 2;
    }

    public int undo() {
        if (changes.size == 0) {
            return NOT;
        }
        changes.layBack(beam);
        return changes.size;
    }

    public int image() {
        kept.become(beam);
        hasImage = true;
        return beam.length;
    }

    public int back() {
        if (!hasImage) {
            return NOT;
        }
        beam.become(kept);
        changes.forget();
        return beam.length;
    }

    // ---- what the calls share

    private static boolean isPart(int part) {
        return part == 0 || part == 1;
    }

    private static boolean isV(int v) {
        return v >= -MOST_V && v <= MOST_V;
    }

    private static boolean isList(int list) {
        return list >= 0 && list < LISTS;
    }

    /** Every division by what is counted goes through here, so that none is by 0. */
    private static long divide(long a, long b) {
        return b == 0 ? 0 : a / b;
    }

    private static long commonDivisor(long a, long b) {
        long x = Math.abs(a);
        long y = Math.abs(b);
        for (int i = 0; i < MOST_STEPS && y != 0; i++) {
            long rest = x % y;
            x = y;
            y = rest;
        }
        return x;
    }

    private long inLowest(long above, long below, int part) {
        answer.become(above, below);
        return answer.told(part);
    }

    /** Moments at all places, each above and below the line. */
    private int numbersInAll() {
        return 2 * (beam.length + 1);
    }

    private long numberOfMoments(int i) {
        return inLowest(statics.bend[i / 2], statics.below, i % 2);
    }

    private void solveAsItIs() {
        statics.frame(beam);
        statics.bearLoads(beam);
        statics.solve();
    }

    private void solveUnit(int at) {
        statics.frame(beam);
        statics.bearPoint(at, 1);
        statics.solve();
    }

    private void solveRolling(int front) {
        statics.frame(beam);
        for (int i = 0; i < beam.axles; i++) {
            statics.bearPoint(front - beam.behind[i], beam.weight[i]);
        }
        statics.solve();
    }

    private boolean canRoll(int what) {
        return beam.stands() && beam.axles > 0 && what >= 0 && what <= 2;
    }

    private long mostByRolling(long[] aboveOf, int i, int what) {
        int front = 0;
        for (int p = 0; p <= MOST_FRONT; p++) {
            solveRolling(p);
            rival.become(aboveOf[i], statics.below);
            if (p == 0 || rival.against(answer) > 0) {
                answer.copy(rival);
                front = p;
            }
        }
        return what == 2 ? front : answer.told(what);
    }

    /** SPAN is compared with most by f: f times SPAN could be too large for a long. */
    private int timesWithin(int most) {
        for (int f = MOST_TIMES; f > 0; f--) {
            rival.become(most, f);
            if (answer.against(rival) <= 0) {
                return f;
            }
        }
        return 0;
    }

    private void printPiece(int k) {
        sheet.putNumber(k);
        sheet.put(':');
        sheet.put(' ');
        answer.become(statics.bend[k], statics.below);
        sheet.putFraction(answer);
        answer.become(statics.cut[k], statics.below);
        sheet.putTerm(answer, 1);
        answer.become(-statics.dense[k], 2);
        sheet.putTerm(answer, 2);
        sheet.put(';');
    }

    /** Above and below the line, in lowest terms, what is below above 0. */
    static final class Fraction {
        long above;
        long below = 1;

        void become(long a, long b) {
            long shared = commonDivisor(a, b);
            long sign = b < 0 ? -1 : 1;
            above = sign * divide(a, shared);
            below = Math.max(1, sign * divide(b, shared));
        }

        void copy(Fraction other) {
            above = other.above;
            below = other.below;
        }

        long told(int part) {
            return part == 0 ? above : below;
        }

        /**
         * Below 0, 0, above 0, as this is less, the same, more. Whole parts are compared, then what
         * is left of both, turned over: a product across could be too large for a long.
         */
        int against(Fraction other) {
            long a = above;
            long b = below;
            long c = other.above;
            long d = other.below;
            for (int i = 0; i < MOST_STEPS && b > 0 && d > 0; i++) {
                long wholeA = Math.floorDiv(a, b);
                long wholeC = Math.floorDiv(c, d);
                long restA = a - wholeA * b;
                long restC = c - wholeC * d;
                if (wholeA != wholeC || restA == 0 || restC == 0) {
                    return wholeA != wholeC ? Long.compare(wholeA, wholeC) : Long.compare(restA, restC);
                }
                a = d;
                c = b;
                b = restC;
                d = restA;
            }
            return 0;
        }
    }

    /** What can be changed, undone and kept in the image. */
    static final class Beam {
        int length = FIRST_LENGTH;
        int supports;
        final int[] place = new int[MOST_SUPPORTS];
        final int[] joint = new int[MOST_SUPPORTS];
        int loads;
        final int[] from = new int[MOST_LOADS];
        final int[] to = new int[MOST_LOADS];
        final int[] v = new int[MOST_LOADS];
        final int[] pointed = new int[MOST_LOADS];
        int axles;
        final int[] behind = new int[MOST_AXLES];
        final int[] weight = new int[MOST_AXLES];

        void become(Beam other) {
            length = other.length;
            supports = other.supports;
            System.arraycopy(other.place, 0, place, 0, MOST_SUPPORTS);
            System.arraycopy(other.joint, 0, joint, 0, MOST_SUPPORTS);
            loads = other.loads;
            System.arraycopy(other.from, 0, from, 0, MOST_LOADS);
            System.arraycopy(other.to, 0, to, 0, MOST_LOADS);
            System.arraycopy(other.v, 0, v, 0, MOST_LOADS);
            System.arraycopy(other.pointed, 0, pointed, 0, MOST_LOADS);
            axles = other.axles;
            System.arraycopy(other.behind, 0, behind, 0, MOST_AXLES);
            System.arraycopy(other.weight, 0, weight, 0, MOST_AXLES);
        }

        void clear(int newLength) {
            length = newLength;
            supports = 0;
            loads = 0;
            axles = 0;
        }

        boolean stands() {
            return supports >= 2;
        }

        boolean isPlace(int at) {
            return at >= 0 && at <= length;
        }

        boolean isSupport(int k) {
            return k >= 0 && k < supports;
        }

        boolean isLoad(int load) {
            return load >= 0 && load < loads;
        }

        /** The number of the support there, -1 where there is none. */
        int numberAt(int at) {
            for (int k = 0; k < supports; k++) {
                if (place[k] == at) {
                    return k;
                }
            }
            return -1;
        }

        int together() {
            int sum = 0;
            for (int i = 0; i < loads; i++) {
                sum += pointed[i] == 1 ? v[i] : v[i] * (to[i] - from[i]);
            }
            return sum;
        }

        int whyNotLength(int newLength) {
            return newLength < LEAST_LENGTH || newLength > MOST_LENGTH ? BAD : FINE;
        }

        int whyNotSupport(int at) {
            if (!isPlace(at)) {
                return BAD;
            }
            if (numberAt(at) >= 0) {
                return STATE;
            }
            return supports >= MOST_SUPPORTS ? FULL : FINE;
        }

        int whyNotAtSupport(int at) {
            if (!isPlace(at)) {
                return BAD;
            }
            return numberAt(at) < 0 ? STATE : FINE;
        }

        int whyNotPoint(int at, int newV) {
            if (!isPlace(at) || !isV(newV)) {
                return BAD;
            }
            return loads >= MOST_LOADS ? FULL : FINE;
        }

        int whyNotSpread(int begins, int ends, int newV) {
            if (!isPlace(begins) || !isPlace(ends) || begins >= ends || !isV(newV)) {
                return BAD;
            }
            return loads >= MOST_LOADS ? FULL : FINE;
        }

        int whyNotAxle(int far, int heavy) {
            if (far < 0 || far > MOST_BEHIND || heavy < 1 || heavy > MOST_WEIGHT) {
                return BAD;
            }
            return axles >= MOST_AXLES ? FULL : FINE;
        }

        int putSupport(int at) {
            if (supports >= MOST_SUPPORTS) {
                return FULL;
            }
            int k = supports;
            while (k > 0 && place[k - 1] > at) {
                place[k] = place[k - 1];
                joint[k] = joint[k - 1];
                k--;
            }
            place[k] = at;
            joint[k] = 0;
            supports++;
            return k;
        }

        int takeSupport(int k) {
            if (!isSupport(k)) {
                return STATE;
            }
            for (int i = k; i + 1 < supports; i++) {
                place[i] = place[i + 1];
                joint[i] = joint[i + 1];
            }
            supports--;
            return supports;
        }

        int putHinge(int k, int is) {
            if (!isSupport(k)) {
                return STATE;
            }
            int was = joint[k];
            joint[k] = is;
            return was;
        }

        int putLoad(int begins, int ends, int newV, int isPoint) {
            if (loads >= MOST_LOADS) {
                return FULL;
            }
            from[loads] = begins;
            to[loads] = ends;
            v[loads] = newV;
            pointed[loads] = isPoint;
            loads++;
            return loads - 1;
        }

        int takeLoad(int load) {
            if (!isLoad(load)) {
                return BAD;
            }
            for (int i = load; i + 1 < loads; i++) {
                from[i] = from[i + 1];
                to[i] = to[i + 1];
                v[i] = v[i + 1];
                pointed[i] = pointed[i + 1];
            }
            loads--;
            return loads;
        }

        int putAxle(int far, int heavy) {
            if (axles >= MOST_AXLES) {
                return FULL;
            }
            behind[axles] = far;
            weight[axles] = heavy;
            axles++;
            return axles;
        }
    }

    /** The beams ahead of the latest changes, the oldest being written over when there are too many. */
    static final class Changes {
        int size;
        private int next;
        private final Beam[] olds = new Beam[MOST_CHANGES];

        Changes() {
            for (int i = 0; i < MOST_CHANGES; i++) {
                olds[i] = new Beam();
            }
        }

        void keep(Beam now) {
            Beam old = olds[next];
            if (old != null) {
                old.become(now);
            }
            next = next == MOST_CHANGES - 1 ? 0 : next + 1;
            size = Math.min(size + 1, MOST_CHANGES);
        }

        void layBack(Beam now) {
            next = next == 0 ? MOST_CHANGES - 1 : next - 1;
            size = Math.max(size - 1, 0);
            Beam old = olds[next];
            if (old != null) {
                now.become(old);
            }
        }

        void forget() {
            size = 0;
        }
    }

    /**
     * The beam in thought. Moments, shears and reactions are whole numbers over one line, below,
     * which the places of the supports and the hinges alone make; so no fraction is made on the way.
     * With at most four supports on ten it stays under a million, and every product here in a long.
     */
    static final class Statics {
        int length;
        int supports;
        final int[] place = new int[MOST_SUPPORTS];
        final int[] joint = new int[MOST_SUPPORTS];
        final long[] lump = new long[PLACES];
        final long[] dense = new long[PLACES];
        long below = 1;
        final long[] up = new long[MOST_SUPPORTS];
        final long[] cut = new long[PLACES];
        final long[] bend = new long[PLACES];
        long dipBelow = 1;
        final long[] dip = new long[PLACES];
        final Peak top = new Peak(1);
        final Peak bottom = new Peak(-1);
        private long spansTimes = 1;
        private final long[] over = new long[MOST_SUPPORTS];
        private final Fraction much = new Fraction();
        private final Fraction where = new Fraction();

        /** Length, supports and hinges of this beam, and no load. */
        void frame(Beam beam) {
            length = beam.length;
            supports = beam.supports;
            System.arraycopy(beam.place, 0, place, 0, MOST_SUPPORTS);
            System.arraycopy(beam.joint, 0, joint, 0, MOST_SUPPORTS);
            Arrays.fill(lump, 0);
            Arrays.fill(dense, 0);
        }

        void bearPoint(int at, int v) {
            if (at >= 0 && at <= length) {
                lump[at] += v;
            }
        }

        void bearLoads(Beam beam) {
            for (int i = 0; i < beam.loads; i++) {
                if (beam.pointed[i] == 1) {
                    bearPoint(beam.from[i], beam.v[i]);
                } else {
                    for (int k = beam.from[i]; k < beam.to[i]; k++) {
                        dense[k] += beam.v[i];
                    }
                }
            }
        }

        void solve() {
            if (supports < 2) {
                return;
            }
            solveOverSupports();
            shearAlong();
            bendAlong();
        }

        private long span(int j) {
            return place[j + 1] - place[j];
        }

        private boolean isInner(int k) {
            return k > 0 && k < supports - 1;
        }

        /** Whether the moment over it comes by a row of three. */
        private boolean hasRow(int k) {
            return isInner(k) && joint[k] == 0;
        }

        /** The two rows that there may be, by Cramer; one that there isn't says that its moment is 0. */
        private void solveOverSupports() {
            spansTimes = 1;
            for (int j = 0; j + 1 < supports; j++) {
                spansTimes *= span(j);
            }
            int last = supports - 1;
            long atFirst = 2 * spansTimes * twiceOverFirst();
            long atLast = 2 * spansTimes * twiceOverLast();
            long own1 = 1;
            long told1 = 0;
            if (hasRow(1)) {
                own1 = 2 * (span(0) + span(1));
                told1 = -leans(1) - span(0) * atFirst - (last == 2 ? span(1) * atLast : 0);
            }
            long own2 = 1;
            long told2 = 0;
            if (hasRow(2)) {
                own2 = 2 * (span(1) + span(2));
                told2 = -leans(2) - span(2) * atLast;
            }
            long between = hasRow(1) && hasRow(2) ? span(1) : 0;
            long cross = own1 * own2 - between * between;
            over[1] = (own2 * told1 - between * told2) * spansTimes;
            over[2] = (own1 * told2 - between * told1) * spansTimes;
            over[0] = atFirst * cross * spansTimes;
            over[last] = atLast * cross * spansTimes;
            below = 4 * spansTimes * spansTimes * cross;
        }

        private long twiceOverFirst() {
            long sum = 0;
            for (int k = 0; k < place[0]; k++) {
                long far = place[0] - k;
                sum -= 2 * lump[k] * far + dense[k] * (2 * far - 1);
            }
            return sum;
        }

        private long twiceOverLast() {
            int from = place[supports - 1];
            long sum = 0;
            for (int k = from; k < length; k++) {
                long far = k + 1 - from;
                sum -= 2 * lump[k + 1] * far + dense[k] * (2 * far - 1);
            }
            return sum;
        }

        /** What the loads of both spans at an inner support put into its row, times 4 and all spans. */
        private long leans(int k) {
            return leanToRight(k - 1) * divide(spansTimes, span(k - 1))
                + leanToLeft(k) * divide(spansTimes, span(k));
        }

        /** 24 S of the document. */
        private long leanToRight(int j) {
            long l = span(j);
            long sum = 0;
            for (int s = 0; s < l; s++) {
                int k = place[j] + s;
                sum += dense[k] * (leanOfSpread(l, s + 1) - leanOfSpread(l, s));
                sum += s == 0 ? 0 : lump[k] * leanOfPoint(l, s);
            }
            return sum;
        }

        /** 24 T of the document. */
        private long leanToLeft(int j) {
            long l = span(j);
            long sum = 0;
            for (int s = 0; s < l; s++) {
                int k = place[j] + s;
                sum += dense[k] * (leanOfSpread(l, l - s) - leanOfSpread(l, l - s - 1));
                sum += s == 0 ? 0 : lump[k] * leanOfPoint(l, l - s);
            }
            return sum;
        }

        private static long leanOfPoint(long l, long s) {
            return 4 * s * (l * l - s * s);
        }

        private static long leanOfSpread(long l, long s) {
            return s * s * (2 * l * l - s * s);
        }

        private void shearAlong() {
            int next = 0;
            long ahead = 0;
            for (int k = 0; k <= length; k++) {
                cut[k] = ahead - lump[k] * below;
                if (next < supports && place[next] == k) {
                    long behind = next == supports - 1 ? loadsBehind(k) : shearOfSpan(next);
                    up[next] = behind - cut[k];
                    cut[k] = behind;
                    next++;
                }
                ahead = cut[k] - dense[k] * below;
            }
        }

        private long loadsBehind(int at) {
            long sum = 0;
            for (int k = at; k < length; k++) {
                sum += dense[k] + lump[k + 1];
            }
            return sum * below;
        }

        /** Shear at the left end of a span, by the moments at both ends and the loads between. */
        private long shearOfSpan(int j) {
            long l = span(j);
            long twice = 0;
            for (int s = 0; s < l; s++) {
                int k = place[j] + s;
                twice += dense[k] * (2 * (l - s) - 1);
                twice += s == 0 ? 0 : 2 * lump[k] * (l - s);
            }
            return divide(over[j + 1] - over[j], l) + twice * divide(below, 2 * l);
        }

        private void bendAlong() {
            bend[0] = 0;
            for (int k = 0; k < length; k++) {
                bend[k + 1] = bend[k] + cut[k] - dense[k] * (below / 2);
            }
        }

        /** The moment at a by b; a is at most b times length, and b is above 0. */
        void bendBetween(long a, long b, Fraction into) {
            int k = (int) Math.min(divide(a, b), length);
            long r = a - k * b;
            long above = 2 * b * b * bend[k] + 2 * b * r * cut[k] - r * r * dense[k] * below;
            into.become(above, 2 * b * b * below);
        }

        void findPeaks() {
            top.isThere = false;
            bottom.isThere = false;
            for (int k = 0; k <= length; k++) {
                much.become(bend[k], below);
                where.become(k, 1);
                offerPeak();
                if (k < length && turnsWithin(k)) {
                    long q = dense[k];
                    much.become(2 * q * below * bend[k] + cut[k] * cut[k], 2 * q * below * below);
                    where.become(k * q * below + cut[k], q * below);
                    offerPeak();
                }
            }
        }

        private void offerPeak() {
            top.offer(much, where);
            bottom.offer(much, where);
        }

        /** Whether shear is 0 inside of a piece, its ends not counted. */
        private boolean turnsWithin(int k) {
            long q = dense[k] * below;
            return q > 0 ? cut[k] > 0 && cut[k] < q : cut[k] < 0 && cut[k] > q;
        }

        void tellSpan(Fraction into) {
            findPeaks();
            into.become(-bottom.much.above, bottom.much.below);
            if (top.much.against(into) > 0) {
                into.copy(top.much);
            }
        }

        /** Sags and steepness are counted in parts of 24, of below and of all spans. */
        void findSags() {
            dipBelow = 24 * below * spansTimes;
            for (int j = 0; j + 1 < supports; j++) {
                long steep = sagOfSpan(j);
                if (j == 0) {
                    sagAheadOfFirst(steep);
                }
                if (j == supports - 2) {
                    sagBehindLast(steep);
                }
            }
        }

        /** Sags as if it began level, then turned so that it ends at 0: how steep it is at its left. */
        private long sagOfSpan(int j) {
            dip[place[j]] = 0;
            long steep = 0;
            for (int k = place[j]; k < place[j + 1]; k++) {
                dip[k + 1] = dip[k] + steep - rise(k);
                steep -= bending(k);
            }
            long atLeft = -dip[place[j + 1]] * divide(spansTimes, span(j));
            for (int k = place[j]; k <= place[j + 1]; k++) {
                dip[k] = dip[k] * spansTimes + (k - place[j]) * atLeft;
            }
            return atLeft;
        }

        private void sagAheadOfFirst(long steepAtFirst) {
            long steep = steepAtFirst;
            for (int k = place[0] - 1; k >= 0; k--) {
                steep += bending(k) * spansTimes;
                dip[k] = dip[k + 1] - steep + rise(k) * spansTimes;
            }
        }

        private void sagBehindLast(long steepAhead) {
            long steep = steepAhead;
            for (int k = place[supports - 2]; k < length; k++) {
                if (k >= place[supports - 1]) {
                    dip[k + 1] = dip[k] + steep - rise(k) * spansTimes;
                }
                steep -= bending(k) * spansTimes;
            }
        }

        /** Moment of a piece integrated twice. */
        private long rise(int k) {
            return 12 * bend[k] + 4 * cut[k] - dense[k] * below;
        }

        /** Moment of a piece integrated once. */
        private long bending(int k) {
            return 24 * bend[k] + 12 * cut[k] - 4 * dense[k] * below;
        }

        int placeOfMostSag() {
            int found = 0;
            for (int k = 1; k <= length; k++) {
                if (dip[k] > dip[found]) {
                    found = k;
                }
            }
            return found;
        }
    }

    /** The first of all offered that is greatest (or least), and where it is. */
    static final class Peak {
        final Fraction much = new Fraction();
        final Fraction where = new Fraction();
        boolean isThere;
        private final int way;

        Peak(int way) {
            this.way = way;
        }

        void offer(Fraction newMuch, Fraction newWhere) {
            if (isThere && way * newMuch.against(much) <= 0) {
                return;
            }
            much.copy(newMuch);
            where.copy(newWhere);
            isThere = true;
        }
    }

    /** The tape, and a text on it taken onto a beam of its own, so that a fault leaves nothing behind. */
    static final class Reader {
        private static final int[] NUMBERS = {1, 1, 1, 2, 3, 2};

        int size;
        final Beam trial = new Beam();
        private final byte[] tape = new byte[MOST_TAPE];
        private int at;
        private int word;
        private final int[] number = new int[MOST_NUMBERS];

        int take(int letter) {
            if (size >= MOST_TAPE) {
                return FULL;
            }
            tape[size] = (byte) letter;
            size++;
            return size;
        }

        /** How many statements, trial being the beam then; or the fault. */
        int readOnto(Beam beam) {
            int wrong = placeOfNoText();
            if (wrong >= 0) {
                return NO_TEXT - wrong;
            }
            trial.become(beam);
            int statements = 0;
            at = 0;
            for (int i = 0; i < MOST_TAPE && at < size; i++) {
                int begins = at;
                readStatement();
                if (whyNotStatement() != FINE) {
                    return REFUSED_TEXT - begins;
                }
                takeStatement();
                statements++;
                at++;
            }
            return statements;
        }

        /** The first byte with which no text goes on, -1 if all is a text. */
        private int placeOfNoText() {
            at = 0;
            for (int i = 0; i <= MOST_TAPE; i++) {
                if (!readStatement()) {
                    return at;
                }
                if (at >= size) {
                    return -1;
                }
                if (tape[at] != ';') {
                    return at;
                }
                at++;
            }
            return at;
        }

        /** Whether there is one; at is behind it then, else at what is wrong. */
        private boolean readStatement() {
            int end = at;
            while (end < size && isLetter(tape[end])) {
                end++;
            }
            word = wordWithin(at, end);
            if (word < 0) {
                return false;
            }
            at = end;
            for (int i = 0; i < NUMBERS[word]; i++) {
                boolean isV = i == NUMBERS[word] - 1 && (word == WORD_POINT || word == WORD_SPREAD);
                if (!readNumber(i, isV)) {
                    return false;
                }
            }
            return true;
        }

        private boolean readNumber(int i, boolean mayBeBelow) {
            if (!isNext(' ')) {
                return false;
            }
            at++;
            boolean minus = mayBeBelow && isNext('-');
            if (minus) {
                at++;
            }
            if (!isFigureNext()) {
                return false;
            }
            int value = tape[at] - '0';
            at++;
            if (isFigureNext()) {
                value = 10 * value + tape[at] - '0';
                at++;
            }
            number[i] = minus ? -value : value;
            return true;
        }

        private boolean isNext(int letter) {
            return at < size && tape[at] == letter;
        }

        private boolean isFigureNext() {
            return at < size && tape[at] >= '0' && tape[at] <= '9';
        }

        private static boolean isLetter(int letter) {
            return letter >= 'a' && letter <= 'z';
        }

        private int wordWithin(int from, int end) {
            for (int w = 0; w < WORDS; w++) {
                if (spells(from, end, spelled(w))) {
                    return w;
                }
            }
            return -1;
        }

        private boolean spells(int from, int end, String text) {
            if (text.length() != end - from) {
                return false;
            }
            for (int i = from; i < end; i++) {
                if (tape[i] != text.charAt(i - from)) {
                    return false;
                }
            }
            return true;
        }

        private static String spelled(int w) {
            switch (w) {
                case WORD_BEAM: return "beam";
                case WORD_SUPPORT: return "support";
                case WORD_HINGE: return "hinge";
                case WORD_POINT: return "point";
                case WORD_SPREAD: return "spread";
                default: return "axle";
            }
        }

        private int whyNotStatement() {
            switch (word) {
                case WORD_BEAM: return trial.whyNotLength(number[0]);
                case WORD_SUPPORT: return trial.whyNotSupport(number[0]);
                case WORD_HINGE: return trial.whyNotAtSupport(number[0]);
                case WORD_POINT: return trial.whyNotPoint(number[0], number[1]);
                case WORD_SPREAD: return trial.whyNotSpread(number[0], number[1], number[2]);
                default: return trial.whyNotAxle(number[0], number[1]);
            }
        }

        private void takeStatement() {
            switch (word) {
                case WORD_BEAM: trial.clear(number[0]); break;
                case WORD_SUPPORT: trial.putSupport(number[0]); break;
                case WORD_HINGE: trial.putHinge(trial.numberAt(number[0]), 1); break;
                case WORD_POINT: trial.putLoad(number[0], number[0], number[1], 1); break;
                case WORD_SPREAD: trial.putLoad(number[0], number[1], number[2], 0); break;
                default: trial.putAxle(number[0], number[1]); break;
            }
        }
    }

    static final class Paper {
        int size;
        final byte[] bytes = new byte[MOST_PAPER];
        private final byte[] figures = new byte[MOST_FIGURES];

        void put(int letter) {
            if (size < MOST_PAPER) {
                bytes[size] = (byte) letter;
                size++;
            }
        }

        void putNumber(long number) {
            if (number < 0) {
                put('-');
            }
            long rest = Math.abs(number);
            int many = 0;
            for (int i = 0; i < MOST_FIGURES && (i == 0 || rest > 0); i++) {
                figures[i] = (byte) ('0' + rest % 10);
                rest /= 10;
                many++;
            }
            for (int i = many - 1; i >= 0; i--) {
                put(figures[i]);
            }
        }

        void putFraction(Fraction fraction) {
            putNumber(fraction.above);
            if (fraction.below != 1) {
                put('/');
                putNumber(fraction.below);
            }
        }

        /** With its sign and so many x, nothing if it is 0. */
        void putTerm(Fraction fraction, int degree) {
            if (fraction.above == 0) {
                return;
            }
            if (fraction.above > 0) {
                put('+');
            }
            putFraction(fraction);
            for (int i = 0; i < degree; i++) {
                put('x');
            }
        }
    }

    /** The lists, all in one array; a list's size is below 0 while it holds nothing. */
    static final class Rows {
        private final int[] size = new int[LISTS];
        private final long[] cells = new long[LISTS * MOST_ROW];

        Rows() {
            Arrays.fill(size, -1);
        }

        boolean isThere(int list) {
            return isList(list) && size[list] >= 0;
        }

        boolean has(int list, int i) {
            return isList(list) && i >= 0 && i < size[list];
        }

        void begin(int list, int n) {
            if (!isList(list) || n < 0 || n > MOST_ROW) {
                return;
            }
            size[list] = n;
            for (int i = 0; i < n; i++) {
                cells[list * MOST_ROW + i] = 0;
            }
        }

        void put(int list, int i, long v) {
            if (has(list, i)) {
                cells[list * MOST_ROW + i] = v;
            }
        }

        long at(int list, int i) {
            return has(list, i) ? cells[list * MOST_ROW + i] : NO;
        }
    }
}
