import java.util.ArrayDeque;
import java.util.ArrayList;
import java.util.Arrays;
import java.util.Deque;
import java.util.HashMap;
import java.util.List;
import java.util.Map;
import java.util.TreeMap;
import java.util.regex.Matcher;
import java.util.regex.Pattern;

/** All promises once more, as plainly as the Java library lets them be said; slow, for the tests alone. */
final class Model {
    static final int BAD = -1, NOT = -2, FULL = -3, STATE = -6, NOTHING = -11, BEYOND = -13, BELOW = -14;
    static final long NO = Long.MIN_VALUE;
    private static final String V = " -?[0-9]{1,2}", N = " [0-9]{1,2}";
    private static final String STATEMENT = "(?:beam" + N + "|support" + N + "|hinge" + N + "|point" + N + V
        + "|spread" + N + N + V + "|axle" + N + N + ")";
    private static final Pattern TEXT = Pattern.compile(STATEMENT + "(?:;" + STATEMENT + ")*");
    private static final List<String> WORDS = List.of("beam", "support", "hinge", "point", "spread", "axle");

    /** from, to, v, 1 for a point. */
    static final class State {
        int length = 8;
        final TreeMap<Integer, Boolean> supports = new TreeMap<>();
        final List<int[]> loads = new ArrayList<>();
        final List<int[]> axles = new ArrayList<>();

        State copy() {
            State s = new State();
            s.length = length;
            s.supports.putAll(supports);
            loads.forEach(l -> s.loads.add(l.clone()));
            axles.forEach(a -> s.axles.add(a.clone()));
            return s;
        }
    }

    private State now = new State();
    private State image;
    private final Deque<State> olds = new ArrayDeque<>();
    private final StringBuilder tape = new StringBuilder();
    private String paper = "";
    private final long[][] lists = new long[3][];
    private final Map<String, Frame> frames = new HashMap<>();

    private void change() {
        olds.push(now.copy());
        if (olds.size() > 10) {
            olds.removeLast();
        }
    }

    private boolean place(int p) {
        return p >= 0 && p <= now.length;
    }

    private static boolean within(int x, int from, int to) {
        return x >= from && x <= to;
    }

    private boolean stands() {
        return now.supports.size() >= 2;
    }

    private int[] places() {
        return now.supports.keySet().stream().mapToInt(Integer::intValue).toArray();
    }

    private boolean[] hinges() {
        boolean[] is = new boolean[now.supports.size()];
        int i = 0;
        for (boolean h : now.supports.values()) {
            is[i++] = h;
        }
        return is;
    }

    int beam(int length) {
        if (!within(length, 2, 10)) {
            return BAD;
        }
        int was = now.length;
        now = new State();
        now.length = length;
        olds.clear();
        return was;
    }

    int support(int p) {
        if (!place(p)) {
            return BAD;
        }
        if (now.supports.containsKey(p)) {
            return STATE;
        }
        if (now.supports.size() == 4) {
            return FULL;
        }
        change();
        now.supports.put(p, false);
        return now.supports.headMap(p).size();
    }

    int drop(int p) {
        if (!place(p)) {
            return BAD;
        }
        if (!now.supports.containsKey(p)) {
            return STATE;
        }
        change();
        now.supports.remove(p);
        return now.supports.size();
    }

    int hinge(int p, int is) {
        if (!place(p) || !within(is, 0, 1)) {
            return BAD;
        }
        if (!now.supports.containsKey(p)) {
            return STATE;
        }
        change();
        return now.supports.put(p, is == 1) ? 1 : 0;
    }

    private int come(int... load) {
        if (now.loads.size() == 6) {
            return FULL;
        }
        change();
        now.loads.add(load);
        return now.loads.size() - 1;
    }

    int point(int p, int v) {
        return place(p) && within(v, -9, 9) ? come(p, p, v, 1) : BAD;
    }

    int spread(int from, int to, int v) {
        return place(from) && place(to) && from < to && within(v, -9, 9) ? come(from, to, v, 0) : BAD;
    }

    int heavier(int load, int v) {
        if (!within(load, 0, now.loads.size() - 1) || !within(v, -9, 9)) {
            return BAD;
        }
        change();
        int was = now.loads.get(load)[2];
        now.loads.get(load)[2] = v;
        return was;
    }

    int lift(int load) {
        if (!within(load, 0, now.loads.size() - 1)) {
            return BAD;
        }
        change();
        now.loads.remove(load);
        return now.loads.size();
    }

    int axle(int behind, int weight) {
        if (!within(behind, 0, 9) || !within(weight, 1, 9)) {
            return BAD;
        }
        if (now.axles.size() == 3) {
            return FULL;
        }
        change();
        now.axles.add(new int[] {behind, weight});
        return now.axles.size();
    }

    int unhitch() {
        change();
        int were = now.axles.size();
        now.axles.clear();
        return were;
    }

    int loadOf(int load, int what) {
        return within(load, 0, now.loads.size() - 1) && within(what, 0, 3) ? now.loads.get(load)[what] : BAD;
    }

    int supportOf(int k, int what) {
        if (!within(k, 0, now.supports.size() - 1) || !within(what, 0, 1)) {
            return BAD;
        }
        return what == 0 ? places()[k] : hinges()[k] ? 1 : 0;
    }

    int count(int what) {
        int together = 0;
        for (int[] l : now.loads) {
            together += l[2] * (l[3] == 1 ? 1 : l[1] - l[0]);
        }
        int[] all = {now.length, now.supports.size(), now.loads.size(), now.axles.size(), olds.size(),
            tape.length(), paper.length(), together};
        return within(what, 0, 7) ? all[what] : BAD;
    }

    private Frame frame(int[] places, boolean[] hinges, int[] points, int[] q) {
        String key = now.length + Arrays.toString(places) + Arrays.toString(hinges) + Arrays.toString(points)
            + Arrays.toString(q);
        return frames.computeIfAbsent(key, k -> new Frame(now.length, places, hinges, points, q));
    }

    private Frame loaded(int[] places, boolean[] hinges) {
        int[] points = new int[now.length + 1];
        int[] q = new int[now.length];
        for (int[] l : now.loads) {
            if (l[3] == 1) {
                points[l[0]] += l[2];
            }
            for (int k = l[0]; k < l[1]; k++) {
                q[k] += l[2];
            }
        }
        return frame(places, hinges, points, q);
    }

    private Frame asItIs() {
        return loaded(places(), hinges());
    }

    private Frame rolling(int front) {
        int[] points = new int[now.length + 1];
        for (int[] a : now.axles) {
            if (place(front - a[0])) {
                points[front - a[0]] += a[1];
            }
        }
        return frame(places(), hinges(), points, new int[now.length]);
    }

    private Frame unitAt(int at) {
        int[] points = new int[now.length + 1];
        points[at] = 1;
        return frame(places(), hinges(), points, new int[now.length]);
    }

    private boolean support0(int k) {
        return within(k, 0, now.supports.size() - 1);
    }

    long reaction(int k, int part) {
        return stands() && support0(k) && within(part, 0, 1) ? asItIs().reaction[k].part(part) : NO;
    }

    long shear(int p, int part) {
        return stands() && place(p) && within(part, 0, 1) ? asItIs().shear[p].part(part) : NO;
    }

    long moment(int a, int b, int part) {
        boolean fine = stands() && within(b, 1, 100) && within(a, 0, b * now.length) && within(part, 0, 1);
        return fine ? asItIs().momentAt(a, b).part(part) : NO;
    }

    long sag(int p, int part) {
        return stands() && place(p) && within(part, 0, 1) ? asItIs().sag[p].part(part) : NO;
    }

    long greatest(int which, int what) {
        if (!stands() || !within(which, 0, 1) || !within(what, 0, 3)) {
            return NO;
        }
        return asItIs().peak(which == 0 ? 1 : -1)[what / 2].part(what % 2);
    }

    int lowest() {
        if (!stands()) {
            return STATE;
        }
        Ratio[] sag = asItIs().sag;
        int found = 0;
        for (int k = 0; k <= now.length; k++) {
            found = sag[k].compareTo(sag[found]) > 0 ? k : found;
        }
        return found;
    }

    int times(int most) {
        if (!within(most, 0, 9999)) {
            return BAD;
        }
        if (!stands()) {
            return STATE;
        }
        Ratio span = asItIs().span();
        if (span.sign() == 0) {
            return NOT;
        }
        int f = 0;
        while (f < 99 && span.times(f + 1).compareTo(Ratio.of(most)) <= 0) {
            f++;
        }
        return f;
    }

    private long mostOf(int what, boolean ofMoment, int i) {
        Ratio most = null;
        int front = 0;
        for (int p = 0; p < 20; p++) {
            Ratio is = ofMoment ? rolling(p).moment[i] : rolling(p).reaction[i];
            if (most == null || is.compareTo(most) > 0) {
                most = is;
                front = p;
            }
        }
        return what == 2 ? front : most.part(what);
    }

    long rolls(int p, int what) {
        boolean fine = stands() && place(p) && within(what, 0, 2) && !now.axles.isEmpty();
        return fine ? mostOf(what, true, p) : NO;
    }

    long presses(int k, int what) {
        boolean fine = stands() && support0(k) && within(what, 0, 2) && !now.axles.isEmpty();
        return fine ? mostOf(what, false, k) : NO;
    }

    long unit(int at, int p, int part) {
        boolean fine = stands() && place(at) && place(p) && within(part, 0, 1);
        return fine ? unitAt(at).moment[p].part(part) : NO;
    }

    long bears(int at, int k, int part) {
        boolean fine = stands() && place(at) && support0(k) && within(part, 0, 1);
        return fine ? unitAt(at).reaction[k].part(part) : NO;
    }

    int best(int k) {
        if (!support0(k)) {
            return BAD;
        }
        if (!stands()) {
            return STATE;
        }
        int[] places = places();
        int found = -1;
        Ratio least = null;
        for (int p = 0; p <= now.length; p++) {
            boolean free = k == 0 || p > places[k - 1];
            free &= k == places.length - 1 || p < places[k + 1];
            if (!free) {
                continue;
            }
            int[] moved = places.clone();
            moved[k] = p;
            Ratio span = loaded(moved, hinges()).span();
            if (least == null || span.compareTo(least) < 0) {
                least = span;
                found = p;
            }
        }
        return found;
    }

    long hinged(int k, int part) {
        boolean fine = stands() && within(k, 1, now.supports.size() - 2) && within(part, 0, 1);
        if (!fine || hinges()[k]) {
            return NO;
        }
        boolean[] hinges = hinges();
        hinges[k] = true;
        return loaded(places(), hinges).span().part(part);
    }

    int feed(int letter) {
        if (!within(letter, 1, 127)) {
            return BAD;
        }
        if (tape.length() == 120) {
            return FULL;
        }
        tape.append((char) letter);
        return tape.length();
    }

    int reads() {
        String text = tape.toString();
        tape.setLength(0);
        int wrong = wrongPlace(text);
        if (wrong >= 0) {
            return -1000 - wrong;
        }
        Model trial = new Model();
        trial.now = now.copy();
        int begins = 0;
        String[] statements = text.split(";");
        for (String statement : statements) {
            if (trial.refuses(statement.split(" "))) {
                return -2000 - begins;
            }
            begins += statement.length() + 1;
        }
        now = trial.now;
        olds.clear();
        return statements.length;
    }

    private boolean refuses(String[] s) {
        int[] n = new int[s.length];
        for (int i = 1; i < s.length; i++) {
            n[i] = Integer.parseInt(s[i]);
        }
        switch (s[0]) {
            case "beam": return beam(n[1]) < 0;
            case "support": return support(n[1]) < 0;
            case "hinge": return hinge(n[1], 1) < 0;
            case "point": return point(n[1], n[2]) < 0;
            case "spread": return spread(n[1], n[2], n[3]) < 0;
            default: return axle(n[1], n[2]) < 0;
        }
    }

    private static boolean mayGoOn(String text) {
        Matcher m = TEXT.matcher(text);
        return m.matches() || m.hitEnd();
    }

    /** -1 if it is a text. */
    private static int wrongPlace(String text) {
        if (TEXT.matcher(text).matches()) {
            return -1;
        }
        int i = 0;
        while (i < text.length() && mayGoOn(text.substring(0, i + 1))) {
            i++;
        }
        int begins = text.lastIndexOf(';', i - 1) + 1;
        String rest = text.substring(begins);
        String word = rest.replaceFirst("(?s)[^a-z].*", "");
        return i <= begins + word.length() && !WORDS.contains(word) ? begins : i;
    }

    int prints() {
        if (!stands()) {
            return STATE;
        }
        Frame f = asItIs();
        StringBuilder s = new StringBuilder();
        for (int k = 0; k < now.length; k++) {
            s.append(k).append(": ").append(f.moment[k]);
            term(s, f.shear[k], "x");
            term(s, Ratio.of(-f.q[k], 2), "xx");
            s.append(';');
        }
        paper = s.toString();
        return paper.length();
    }

    private static void term(StringBuilder s, Ratio r, String x) {
        if (r.sign() != 0) {
            s.append(r.sign() > 0 ? "+" : "").append(r).append(x);
        }
    }

    int paper(int i) {
        return i < 0 ? BAD : i < paper.length() ? paper.charAt(i) : NOT;
    }

    int list(int list, int n) {
        if (!within(list, 0, 2) || n > 24) {
            return BAD;
        }
        if (n < 0) {
            return BELOW;
        }
        lists[list] = new long[n];
        return 1;
    }

    int set(int list, int i, long v) {
        if (!within(list, 0, 2)) {
            return BAD;
        }
        if (lists[list] == null) {
            return NOTHING;
        }
        if (!within(i, 0, lists[list].length - 1)) {
            return BEYOND;
        }
        lists[list][i] = v;
        return 1;
    }

    long get(int list, int i) {
        boolean fine = within(list, 0, 2) && lists[list] != null && within(i, 0, lists[list].length - 1);
        return fine ? lists[list][i] : NO;
    }

    private List<Long> moments() {
        List<Long> all = new ArrayList<>();
        for (Ratio r : asItIs().moment) {
            all.add(r.part(0));
            all.add(r.part(1));
        }
        return all;
    }

    int into(int list, int p) {
        if (!within(list, 0, 2)) {
            return BAD;
        }
        if (!stands()) {
            return STATE;
        }
        if (lists[list] == null) {
            return NOTHING;
        }
        if (p < 0) {
            return BEYOND;
        }
        List<Long> all = moments();
        int many = Math.max(0, Math.min(all.size(), lists[list].length - p));
        for (int i = 0; i < many; i++) {
            lists[list][p + i] = all.get(i);
        }
        return many;
    }

    int judge(int list, int p) {
        if (!within(list, 0, 2) || p < 0) {
            return BAD;
        }
        if (!stands()) {
            return STATE;
        }
        if (lists[list] == null) {
            return NOTHING;
        }
        List<Long> all = moments();
        int many = Math.max(0, Math.min(all.size(), lists[list].length - p));
        for (int i = 0; i < many; i++) {
            if (lists[list][p + i] != all.get(i)) {
                return i / 2;
            }
        }
        return many == all.size() ? NOT : 100 + many / 2;
    }

    int undo() {
        if (olds.isEmpty()) {
            return NOT;
        }
        now = olds.pop();
        return olds.size();
    }

    int image() {
        image = now.copy();
        return now.length;
    }

    int back() {
        if (image == null) {
            return NOT;
        }
        now = image.copy();
        olds.clear();
        return now.length;
    }
}
