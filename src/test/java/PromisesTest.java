/** Each promise by its number: ordinary calls, the edges that the document names, and wrong ones. */
public final class PromisesTest {
    private static final int BAD = -1, NOT = -2, FULL = -3, STATE = -6, NOTHING = -11, BEYOND = -13, BELOW = -14;
    private static final long NO = Long.MIN_VALUE;
    private static final int LOW = Integer.MIN_VALUE, HIGH = Integer.MAX_VALUE;
    private static int wrong;
    private static int promise;
    private static int row;

    private static void due(long got, long want) {
        row++;
        if (got != want) {
            wrong++;
            System.out.println("promise " + promise + ", row " + row + ": answered " + got + ", due is " + want);
        }
    }

    private static void fraction(long above, long below, long wantAbove, long wantBelow) {
        due(above, wantAbove);
        due(below, wantBelow);
    }

    private static void begin(int number) {
        promise = number;
        row = 0;
    }

    private static BeamPieces of(int length, int... supports) {
        BeamPieces x = new BeamPieces();
        x.beam(length);
        for (int place : supports) {
            x.support(place);
        }
        return x;
    }

    private static int read(BeamPieces x, String text) {
        for (int i = 0; i < text.length(); i++) {
            x.feed(text.charAt(i));
        }
        return x.reads();
    }

    private static void printed(BeamPieces x, String want) {
        due(x.prints(), want.length());
        due(x.count(6), want.length());
        for (int i = 0; i < want.length(); i++) {
            due(x.paper(i), want.charAt(i));
        }
        due(x.paper(want.length()), NOT);
    }

    public static void main(String[] args) {
        newObject();
        beam();
        support();
        drop();
        hinge();
        point();
        spread();
        heavier();
        lift();
        axle();
        unhitch();
        loadOf();
        supportOf();
        count();
        reaction();
        shear();
        moment();
        sag();
        greatest();
        lowest();
        times();
        rolls();
        presses();
        unit();
        bears();
        best();
        hinged();
        feed();
        readsFaults();
        readsRefused();
        readsRight();
        prints();
        paper();
        list();
        set();
        get();
        into();
        judge();
        undo();
        image();
        back();
        System.out.println(wrong == 0 ? "all promises hold" : wrong + " answers are not as due");
        if (wrong != 0) {
            System.exit(1);
        }
    }

    private static void newObject() {
        begin(1);
        BeamPieces x = new BeamPieces();
        due(x.count(0), 8);
        for (int what = 1; what < 8; what++) {
            due(x.count(what), 0);
        }
        due(x.undo(), NOT);
        due(x.back(), NOT);
        due(x.paper(0), NOT);
        for (int list = 0; list < 3; list++) {
            due(x.set(list, 0, 1), NOTHING);
            due(x.get(list, 0), NO);
        }
        due(BeamPieces.BAD, BAD);
        due(BeamPieces.NOT, NOT);
        due(BeamPieces.FULL, FULL);
        due(BeamPieces.STATE, STATE);
        due(BeamPieces.NO, NO);
    }

    private static void beam() {
        begin(2);
        BeamPieces x = new BeamPieces();
        for (int bad : new int[] {LOW, -1, 0, 1, 11, HIGH}) {
            due(x.beam(bad), BAD);
        }
        due(x.beam(2), 8);
        due(x.beam(10), 2);
        x.support(0);
        x.support(10);
        x.hinge(0, 1);
        x.point(3, 4);
        x.axle(1, 2);
        x.prints();
        x.feed('b');
        x.list(1, 2);
        x.set(1, 1, 77);
        int printed = x.count(6);
        due(x.beam(11), BAD);
        due(x.count(4), 5);
        due(x.count(1), 2);
        due(x.beam(10), 10);
        for (int what = 1; what < 5; what++) {
            due(x.count(what), 0);
        }
        due(x.count(5), 1);
        due(x.count(6), printed);
        due(x.get(1, 1), 77);
        due(x.undo(), NOT);
        due(x.support(0), 0);
        due(x.supportOf(0, 1), 0);
    }

    private static void support() {
        begin(3);
        BeamPieces x = new BeamPieces();
        for (int bad : new int[] {LOW, -1, 9, HIGH}) {
            due(x.support(bad), BAD);
        }
        due(x.support(8), 0);
        due(x.hinge(8, 1), 0);
        due(x.support(0), 0);
        due(x.supportOf(0, 1), 0);
        due(x.supportOf(1, 1), 1);
        due(x.support(4), 1);
        due(x.support(4), STATE);
        due(x.support(6), 2);
        due(x.support(6), STATE);
        due(x.support(5), FULL);
        due(x.support(9), BAD);
        due(x.count(1), 4);
        due(x.count(4), 5);
        due(x.supportOf(3, 0), 8);
        due(x.supportOf(3, 1), 1);
    }

    private static void drop() {
        begin(4);
        BeamPieces x = of(8, 0, 3, 8);
        due(x.drop(-1), BAD);
        due(x.drop(9), BAD);
        due(x.drop(LOW), BAD);
        due(x.drop(4), STATE);
        x.hinge(3, 1);
        x.hinge(8, 1);
        due(x.drop(3), 2);
        due(x.supportOf(1, 0), 8);
        due(x.supportOf(1, 1), 1);
        due(x.support(3), 1);
        due(x.supportOf(1, 1), 0);
        due(x.drop(0), 2);
        due(x.drop(8), 1);
        due(x.drop(3), 0);
        due(x.drop(3), STATE);
        due(x.count(4), 10);
    }

    private static void hinge() {
        begin(5);
        BeamPieces x = of(8, 0, 4, 8);
        x.spread(0, 8, 2);
        due(x.hinge(9, 1), BAD);
        due(x.hinge(-1, 1), BAD);
        due(x.hinge(4, 2), BAD);
        due(x.hinge(4, -1), BAD);
        due(x.hinge(5, 2), BAD);
        due(x.hinge(5, 1), STATE);
        due(x.moment(4, 1, 0), -4);
        due(x.hinge(0, 1), 0);
        due(x.hinge(8, 1), 0);
        due(x.moment(4, 1, 0), -4);
        due(x.hinge(4, 1), 0);
        due(x.moment(4, 1, 0), 0);
        due(x.hinge(4, 1), 1);
        due(x.count(4), 8);
        due(x.hinge(4, 0), 1);
        due(x.hinge(4, 0), 0);
        due(x.moment(4, 1, 0), -4);
        // one on the last support counts as soon as that is an inner one
        BeamPieces y = of(6, 0, 3);
        y.hinge(3, 1);
        y.point(4, 2);
        due(y.moment(3, 1, 0), -2);
        y.support(6);
        due(y.moment(3, 1, 0), 0);
    }

    private static void point() {
        begin(6);
        BeamPieces x = of(4, 0, 4);
        due(x.point(-1, 1), BAD);
        due(x.point(5, 1), BAD);
        due(x.point(0, 10), BAD);
        due(x.point(0, -10), BAD);
        due(x.point(LOW, HIGH), BAD);
        for (int i = 0; i < 6; i++) {
            due(x.point(i % 5, i % 2 == 0 ? -9 : 9), i);
        }
        due(x.point(0, 1), FULL);
        due(x.point(5, 1), BAD);
        due(x.count(2), 6);
        due(of(4).point(4, 0), 0);
    }

    private static void spread() {
        begin(7);
        BeamPieces x = of(4, 0, 4);
        due(x.spread(-1, 1, 1), BAD);
        due(x.spread(0, 5, 1), BAD);
        due(x.spread(2, 2, 1), BAD);
        due(x.spread(3, 2, 1), BAD);
        due(x.spread(0, 1, 10), BAD);
        due(x.spread(0, 1, -10), BAD);
        due(x.spread(LOW, HIGH, 1), BAD);
        due(x.point(0, 1), 0);
        for (int i = 1; i < 6; i++) {
            due(x.spread(0, i % 4 + 1, i % 2 == 0 ? -9 : 9), i);
        }
        due(x.spread(0, 1, 1), FULL);
        due(x.spread(1, 1, 1), BAD);
        due(x.point(0, 1), FULL);
        due(of(4).spread(3, 4, 0), 0);
    }

    private static void heavier() {
        begin(8);
        BeamPieces x = of(4, 0, 4);
        due(x.heavier(0, 1), BAD);
        x.point(2, -1);
        x.spread(0, 4, 5);
        due(x.heavier(2, 1), BAD);
        due(x.heavier(-1, 1), BAD);
        due(x.heavier(0, 10), BAD);
        due(x.heavier(0, -10), BAD);
        due(x.count(4), 4);
        due(x.heavier(0, -9), -1);
        due(x.heavier(0, 9), -9);
        due(x.heavier(1, 5), 5);
        due(x.count(4), 7);
        due(x.loadOf(0, 2), 9);
        due(x.loadOf(0, 3), 1);
        due(x.loadOf(1, 2), 5);
    }

    private static void lift() {
        begin(9);
        BeamPieces x = of(4);
        due(x.lift(0), BAD);
        x.point(1, 1);
        x.spread(1, 3, 2);
        x.point(3, 3);
        due(x.lift(3), BAD);
        due(x.lift(-1), BAD);
        due(x.lift(0), 2);
        due(x.loadOf(0, 2), 2);
        due(x.loadOf(0, 3), 0);
        due(x.loadOf(0, 1), 3);
        due(x.loadOf(1, 0), 3);
        due(x.loadOf(1, 3), 1);
        due(x.lift(1), 1);
        due(x.loadOf(0, 0), 1);
        due(x.lift(0), 0);
        due(x.count(2), 0);
    }

    private static void axle() {
        begin(10);
        BeamPieces x = of(4);
        due(x.axle(-1, 1), BAD);
        due(x.axle(10, 1), BAD);
        due(x.axle(0, 0), BAD);
        due(x.axle(0, 10), BAD);
        due(x.axle(0, 1), 1);
        due(x.axle(9, 9), 2);
        due(x.axle(9, 9), 3);
        due(x.axle(9, 9), FULL);
        due(x.axle(9, 0), BAD);
        due(x.count(3), 3);
        due(x.count(4), 3);
    }

    private static void unhitch() {
        begin(11);
        BeamPieces x = of(4);
        due(x.unhitch(), 0);
        due(x.count(4), 1);
        x.axle(0, 1);
        x.axle(2, 1);
        due(x.unhitch(), 2);
        due(x.count(3), 0);
        due(x.undo(), 3);
        due(x.count(3), 2);
    }

    private static void loadOf() {
        begin(12);
        BeamPieces x = of(7);
        due(x.loadOf(0, 0), BAD);
        x.point(6, -3);
        x.spread(2, 5, 4);
        int[][] want = {{6, 6, -3, 1}, {2, 5, 4, 0}};
        for (int load = 0; load < 2; load++) {
            for (int what = 0; what < 4; what++) {
                due(x.loadOf(load, what), want[load][what]);
            }
            due(x.loadOf(load, 4), BAD);
            due(x.loadOf(load, -1), BAD);
        }
        due(x.loadOf(2, 0), BAD);
        due(x.loadOf(-1, 0), BAD);
    }

    private static void supportOf() {
        begin(13);
        BeamPieces x = of(7, 5, 2);
        x.hinge(5, 1);
        due(x.supportOf(0, 0), 2);
        due(x.supportOf(0, 1), 0);
        due(x.supportOf(1, 0), 5);
        due(x.supportOf(1, 1), 1);
        due(x.supportOf(2, 0), BAD);
        due(x.supportOf(-1, 0), BAD);
        due(x.supportOf(0, 2), BAD);
        due(x.supportOf(0, -1), BAD);
        due(of(7).supportOf(0, 0), BAD);
    }

    private static void count() {
        begin(14);
        BeamPieces x = of(7, 0, 7, 3);
        x.point(1, -2);
        x.spread(2, 5, 4);
        x.spread(0, 7, -1);
        x.axle(0, 1);
        x.feed('x');
        x.feed('y');
        x.prints();
        due(x.count(0), 7);
        due(x.count(1), 3);
        due(x.count(2), 3);
        due(x.count(3), 1);
        due(x.count(4), 7);
        due(x.count(5), 2);
        due(x.count(6) > 0 ? 1 : 0, 1);
        due(x.count(7), -2 + 12 - 7);
        due(x.count(8), BAD);
        due(x.count(-1), BAD);
        for (int i = 0; i < 5; i++) {
            x.unhitch();
        }
        due(x.count(4), 10);
    }

    private static void reaction() {
        begin(15);
        BeamPieces x = of(10, 2);
        due(x.reaction(0, 0), NO);
        x.support(6);
        fraction(x.reaction(0, 0), x.reaction(0, 1), 0, 1);
        x.point(0, 3);
        x.spread(5, 10, 2);
        // about 6: R 4 = 3 * 6 - 10 * 1.5
        fraction(x.reaction(0, 0), x.reaction(0, 1), 3, 4);
        fraction(x.reaction(1, 0), x.reaction(1, 1), 49, 4);
        due(x.reaction(2, 0), NO);
        due(x.reaction(-1, 0), NO);
        due(x.reaction(0, 2), NO);
        due(x.reaction(0, -1), NO);
        // a load on a support goes into that one alone
        BeamPieces y = of(8, 0, 4, 8);
        y.point(4, 7);
        due(y.reaction(0, 0), 0);
        due(y.reaction(1, 0), 7);
        // three equal spans with 1 on each 1: 0.4 l, 1.1 l, 1.1 l, 0.4 l
        BeamPieces z = of(9, 0, 3, 6, 9);
        z.spread(0, 9, 1);
        fraction(z.reaction(0, 0), z.reaction(0, 1), 6, 5);
        fraction(z.reaction(1, 0), z.reaction(1, 1), 33, 10);
        fraction(z.reaction(2, 0), z.reaction(2, 1), 33, 10);
        fraction(z.reaction(3, 0), z.reaction(3, 1), 6, 5);
        // overhangs on both sides: 3 * -2 + 2 * 5 M + 2 * -1 = -(q 27 / 4), q being 4 on the left span
        BeamPieces t = of(8, 2, 5, 7);
        t.spread(0, 2, 1);
        t.spread(2, 5, 4);
        t.point(8, 1);
        fraction(t.moment(2, 1, 0), t.moment(2, 1, 1), -2, 1);
        fraction(t.moment(5, 1, 0), t.moment(5, 1, 1), -19, 10);
        fraction(t.moment(7, 1, 0), t.moment(7, 1, 1), -1, 1);
    }

    private static void shear() {
        begin(16);
        BeamPieces x = of(4, 1, 4);
        x.point(0, 2);
        x.point(4, 9);
        x.spread(1, 4, 1);
        // about 4: R 3 = 2 * 4 + 3 * 1.5
        fraction(x.shear(0, 0), x.shear(0, 1), -2, 1);
        fraction(x.shear(1, 0), x.shear(1, 1), 13, 6);
        fraction(x.shear(3, 0), x.shear(3, 1), 1, 6);
        fraction(x.shear(4, 0), x.shear(4, 1), 0, 1);
        due(x.shear(5, 0), NO);
        due(x.shear(-1, 0), NO);
        due(x.shear(0, 2), NO);
        due(x.shear(0, -1), NO);
        due(of(4, 1).shear(0, 0), NO);
        BeamPieces y = of(4, 1, 3);
        y.point(4, 5);
        due(y.shear(3, 0), 5);
        due(y.shear(4, 0), 0);
        due(y.shear(4, 1), 1);
    }

    private static void moment() {
        begin(17);
        BeamPieces x = of(4, 0, 4);
        x.spread(0, 4, 3);
        // 6 x - 1.5 x x
        fraction(x.moment(0, 1, 0), x.moment(0, 1, 1), 0, 1);
        fraction(x.moment(2, 1, 0), x.moment(2, 1, 1), 6, 1);
        fraction(x.moment(1, 2, 0), x.moment(1, 2, 1), 21, 8);
        fraction(x.moment(1, 3, 0), x.moment(1, 3, 1), 11, 6);
        fraction(x.moment(2, 6, 0), x.moment(2, 6, 1), 11, 6);
        fraction(x.moment(1, 100, 0), x.moment(1, 100, 1), 1197, 20000);
        fraction(x.moment(399, 100, 0), x.moment(399, 100, 1), 1197, 20000);
        fraction(x.moment(400, 100, 0), x.moment(400, 100, 1), 0, 1);
        due(x.moment(401, 100, 0), NO);
        due(x.moment(-1, 100, 0), NO);
        due(x.moment(0, 101, 0), NO);
        due(x.moment(0, 0, 0), NO);
        due(x.moment(0, -1, 0), NO);
        due(x.moment(1, 1, 2), NO);
        due(x.moment(1, 1, -1), NO);
        due(x.moment(HIGH, HIGH, 0), NO);
        due(x.moment(LOW, LOW, 0), NO);
        due(of(4, 0).moment(1, 1, 0), NO);
    }

    private static void sag() {
        begin(18);
        BeamPieces x = of(4, 0, 4);
        x.point(2, 3);
        // P l l l / 48
        fraction(x.sag(2, 0), x.sag(2, 1), 4, 1);
        fraction(x.sag(0, 0), x.sag(0, 1), 0, 1);
        fraction(x.sag(4, 0), x.sag(4, 1), 0, 1);
        due(x.sag(5, 0), NO);
        due(x.sag(-1, 0), NO);
        due(x.sag(0, 2), NO);
        due(of(4, 0).sag(0, 0), NO);
        // beyond the supports it goes on straight, where nothing bends it: P l l / 16 steep
        BeamPieces y = of(8, 2, 6);
        y.point(4, 1);
        fraction(y.sag(0, 0), y.sag(0, 1), -2, 1);
        fraction(y.sag(1, 0), y.sag(1, 1), -1, 1);
        fraction(y.sag(8, 0), y.sag(8, 1), -2, 1);
        // P c c (l + c) / 3 at the tip of what hangs over
        BeamPieces z = of(6, 0, 4);
        z.point(6, 3);
        fraction(z.sag(6, 0), z.sag(6, 1), 24, 1);
        // q l l l l 5 / 384
        BeamPieces q = of(4, 0, 4);
        q.spread(0, 4, 3);
        fraction(q.sag(2, 0), q.sag(2, 1), 10, 1);
    }

    private static void peak(BeamPieces x, int which, long... want) {
        for (int what = 0; what < 4; what++) {
            due(x.greatest(which, what), want[what]);
        }
    }

    private static void greatest() {
        begin(19);
        BeamPieces x = of(5, 0, 5);
        peak(x, 0, 0, 1, 0, 1);
        peak(x, 1, 0, 1, 0, 1);
        x.spread(0, 5, 1);
        peak(x, 0, 25, 8, 5, 2);
        peak(x, 1, 0, 1, 0, 1);
        x.heavier(0, -1);
        peak(x, 0, 0, 1, 0, 1);
        peak(x, 1, -25, 8, 5, 2);
        for (int bad : new int[] {-1, 2, LOW, HIGH}) {
            due(x.greatest(bad, 0), NO);
        }
        for (int bad : new int[] {-1, 4, LOW, HIGH}) {
            due(x.greatest(0, bad), NO);
        }
        due(of(5, 0).greatest(0, 0), NO);
        // flat from 2 to 4, and again from 6 to 8: the least place is told
        BeamPieces y = of(10, 0, 10);
        y.point(2, 3);
        y.point(8, 3);
        peak(y, 0, 6, 1, 2, 1);
        // the peak is just where a piece ends
        BeamPieces z = of(4, 0, 4);
        z.spread(0, 4, 2);
        peak(z, 0, 4, 1, 2, 1);
        // two equal spans: -q l l / 8 over the middle, 9 q l l / 128 at 3 l / 8, twice
        BeamPieces t = of(8, 0, 4, 8);
        t.spread(0, 8, 1);
        peak(t, 0, 9, 8, 3, 2);
        peak(t, 1, -2, 1, 4, 1);
    }

    private static void lowest() {
        begin(20);
        due(of(4).lowest(), STATE);
        due(of(4, 1).lowest(), STATE);
        BeamPieces x = of(4, 1, 3);
        due(x.lowest(), 0);
        x.point(4, 1);
        due(x.lowest(), 4);
        x.point(0, 1);
        due(x.lowest(), 0);
        BeamPieces y = of(5, 0, 5);
        y.spread(0, 5, 1);
        due(y.lowest(), 2);
        y.heavier(0, -1);
        due(y.lowest(), 0);
    }

    private static void times() {
        begin(21);
        BeamPieces x = of(4, 0);
        due(x.times(5), STATE);
        due(x.times(-1), BAD);
        x.support(4);
        due(x.times(10000), BAD);
        due(x.times(5), NOT);
        x.point(2, -3);
        // SPAN is 3
        due(x.times(0), 0);
        due(x.times(2), 0);
        due(x.times(3), 1);
        due(x.times(5), 1);
        due(x.times(6), 2);
        due(x.times(296), 98);
        due(x.times(297), 99);
        due(x.times(9999), 99);
        due(x.times(LOW), BAD);
        BeamPieces y = of(5, 0, 5);
        y.spread(0, 5, 1);
        due(y.times(25), 8);
        due(y.times(24), 7);
    }

    private static void rolls() {
        begin(22);
        BeamPieces x = of(4, 0, 4);
        due(x.rolls(2, 0), NO);
        x.point(2, 9);
        x.axle(0, 4);
        fraction(x.rolls(2, 0), x.rolls(2, 1), 4, 1);
        due(x.rolls(2, 2), 2);
        x.axle(1, 4);
        fraction(x.rolls(2, 0), x.rolls(2, 1), 6, 1);
        due(x.rolls(2, 2), 2);
        x.axle(9, 9);
        fraction(x.rolls(2, 0), x.rolls(2, 1), 9, 1);
        due(x.rolls(2, 2), 11);
        due(x.rolls(0, 0), 0);
        due(x.rolls(0, 1), 1);
        due(x.rolls(0, 2), 0);
        due(x.rolls(5, 0), NO);
        due(x.rolls(-1, 0), NO);
        due(x.rolls(2, 3), NO);
        due(x.rolls(2, -1), NO);
        due(x.moment(2, 1, 0), 9);
        x.drop(4);
        due(x.rolls(2, 0), NO);
        // below 0 with every front by which an axle is on it: the first that is off counts with 0
        BeamPieces y = of(10, 4, 6);
        y.axle(0, 1);
        y.axle(4, 1);
        fraction(y.rolls(5, 0), y.rolls(5, 1), 0, 1);
        due(y.rolls(5, 2), 15);
        // the last front there is: 18 M = 4 * 5 over the middle one
        BeamPieces z = of(10, 0, 5, 9);
        z.axle(9, 5);
        fraction(z.rolls(5, 0), z.rolls(5, 1), 10, 9);
        due(z.rolls(5, 2), 19);
    }

    private static void presses() {
        begin(23);
        BeamPieces x = of(6, 0, 4);
        due(x.presses(0, 0), NO);
        x.point(0, 9);
        x.axle(0, 2);
        x.axle(3, 1);
        fraction(x.presses(0, 0), x.presses(0, 1), 2, 1);
        due(x.presses(0, 2), 0);
        // front at 6, the other at 3: 3 + 3/4
        fraction(x.presses(1, 0), x.presses(1, 1), 15, 4);
        due(x.presses(1, 2), 6);
        due(x.presses(2, 0), NO);
        due(x.presses(-1, 0), NO);
        due(x.presses(0, 3), NO);
        due(x.presses(0, -1), NO);
        x.unhitch();
        due(x.presses(0, 0), NO);
        BeamPieces y = of(10, 0, 10);
        y.axle(9, 5);
        fraction(y.presses(1, 0), y.presses(1, 1), 5, 1);
        due(y.presses(1, 2), 19);
    }

    private static void unit() {
        begin(24);
        BeamPieces x = of(8, 0, 4, 8);
        x.point(1, 9);
        fraction(x.unit(2, 4, 0), x.unit(2, 4, 1), -3, 8);
        fraction(x.unit(4, 4, 0), x.unit(4, 4, 1), 0, 1);
        fraction(x.unit(2, 2, 0), x.unit(2, 2, 1), 13, 16);
        due(x.unit(9, 0, 0), NO);
        due(x.unit(-1, 0, 0), NO);
        due(x.unit(0, 9, 0), NO);
        due(x.unit(0, -1, 0), NO);
        due(x.unit(0, 0, 2), NO);
        due(of(8, 0).unit(0, 0, 0), NO);
    }

    private static void bears() {
        begin(25);
        BeamPieces x = of(8, 0, 4, 8);
        x.point(1, 9);
        fraction(x.bears(2, 1, 0), x.bears(2, 1, 1), 11, 16);
        fraction(x.bears(2, 2, 0), x.bears(2, 2, 1), -3, 32);
        fraction(x.bears(8, 2, 0), x.bears(8, 2, 1), 1, 1);
        due(x.bears(9, 0, 0), NO);
        due(x.bears(-1, 0, 0), NO);
        due(x.bears(0, 3, 0), NO);
        due(x.bears(0, -1, 0), NO);
        due(x.bears(0, 0, 2), NO);
        due(of(8, 0).bears(0, 0, 0), NO);
    }

    private static void best() {
        begin(26);
        BeamPieces x = of(8);
        due(x.best(0), BAD);
        x.support(3);
        due(x.best(0), STATE);
        due(x.best(1), BAD);
        due(x.best(-1), BAD);
        x.support(6);
        // no loads: all are alike, the least place it is, ahead of its own, too
        due(x.best(0), 0);
        due(x.best(1), 4);
        x.support(8);
        due(x.best(1), 4);
        due(x.best(2), 7);
        BeamPieces y = of(8, 0, 8);
        y.point(6, 5);
        due(y.best(1), 6);
        due(y.best(0), 6);
        due(y.supportOf(0, 0), 0);
        due(y.count(4), 3);
        y.support(1);
        due(y.best(1), 6);
        // a hinge goes with its support
        y.hinge(1, 1);
        due(y.best(1), 6);
    }

    private static void hinged() {
        begin(27);
        BeamPieces x = of(8, 0, 4, 8);
        x.spread(0, 8, 1);
        fraction(x.hinged(1, 0), x.hinged(1, 1), 2, 1);
        due(x.moment(4, 1, 0), -2);
        due(x.hinged(0, 0), NO);
        due(x.hinged(2, 0), NO);
        due(x.hinged(3, 0), NO);
        due(x.hinged(-1, 0), NO);
        due(x.hinged(1, 2), NO);
        due(x.hinged(1, -1), NO);
        x.hinge(4, 1);
        due(x.hinged(1, 0), NO);
        x.hinge(4, 0);
        x.heavier(0, -1);
        fraction(x.hinged(1, 0), x.hinged(1, 1), 2, 1);
        x.drop(4);
        due(x.hinged(1, 0), NO);
        // 5 l of 1 on each 1: 25 / 8 where it is hinged
        BeamPieces y = of(10, 0, 5, 10);
        y.spread(0, 10, 1);
        fraction(y.hinged(1, 0), y.hinged(1, 1), 25, 8);
    }

    private static void feed() {
        begin(28);
        BeamPieces x = new BeamPieces();
        due(x.feed(0), BAD);
        due(x.feed(128), BAD);
        due(x.feed(-1), BAD);
        due(x.feed(LOW), BAD);
        due(x.feed(1), 1);
        due(x.feed(127), 2);
        for (int i = 3; i <= 120; i++) {
            due(x.feed('a'), i);
        }
        due(x.feed('a'), FULL);
        due(x.feed(0), BAD);
        due(x.count(5), 120);
        due(x.reads(), -1000);
        due(x.count(5), 0);
        due(x.feed('a'), 1);
    }

    private static void readsFaults() {
        begin(29);
        String[] texts = {"", ";", "sup", "supports 3", "Support 3", " support 3", "support", "support;", "supportX",
            "support3", "support ", "support  3", "support x", "support -3", "support 123", "support 12 ", "support 3 4",
            "support 3;", "support 3;;", "support 3; support 4", "support 3;hing 3", "support 3;hinge", "point 2",
            "point 2 ", "point 2 -", "point 2 --3", "point 2 3-", "point 2 -333", "point 2;3", "spread 1 2", "spread 1 -2 3",
            "spread 1 2 -3 ", "axle 1 -2", "axle -1 2", "beam -6", "hinge -3", "beam 6\n", "beam 6;point", "axle", "b",
            "support 99;x", "beam 6:support 1", "point 2 3 4", "beamz 6", "beama 6", "beam`6", "beam{6"};
        int[] places = {0, 0, 0, 0, 0, 0, 7, 7, 7,
            7, 8, 8, 8, 8, 10, 10, 9,
            10, 10, 10, 10, 15, 7,
            8, 9, 9, 9, 11, 7, 10, 9,
            13, 7, 5, 5, 6, 6, 12, 4, 0,
            11, 6, 9, 0, 0, 4, 4};
        due(places.length, texts.length);
        for (int i = 0; i < texts.length; i++) {
            BeamPieces x = of(8, 1, 2);
            due(read(x, texts[i]), -1000 - places[i]);
            due(x.count(5), 0);
            due(x.count(1), 2);
            due(x.count(2), 0);
            due(x.count(4), 2);
        }
    }

    private static void readsRefused() {
        String[] texts = {"beam 1", "beam 11", "beam 00", "support 9", "support 1", "support 3;support 3", "hinge 3",
            "support 3;hinge 4", "support 3;support 4;support 5", "point 9 1", "point 1 10", "point 1 -10", "spread 2 2 1",
            "spread 0 9 1", "spread 3 2 1", "spread 0 1 99", "axle 10 1", "axle 1 0", "axle 1 10",
            "axle 0 1;axle 0 1;axle 0 1;axle 0 1", "beam 4;support 5", "beam 4;hinge 1",
            "point 0 1;point 0 1;point 0 1;point 0 1;point 0 1;point 0 1;spread 0 1 1"};
        int[] places = {0, 0, 0, 0, 0, 10, 0, 10, 20, 0, 0, 0, 0, 0, 0, 0, 0, 0, 0, 27, 7, 7, 60};
        due(places.length, texts.length);
        for (int i = 0; i < texts.length; i++) {
            BeamPieces x = of(8, 1, 2);
            due(read(x, texts[i]), -2000 - places[i]);
            due(x.count(0), 8);
            due(x.count(1), 2);
            due(x.count(2), 0);
            due(x.count(3), 0);
            due(x.count(4), 2);
            due(x.count(5), 0);
        }
    }

    private static void readsRight() {
        BeamPieces x = of(8, 1, 2);
        due(read(x, "support 05;hinge 2;hinge 2;point 00 -0;spread 1 8 -9;axle 9 9"), 6);
        due(x.count(0), 8);
        due(x.count(1), 3);
        due(x.count(4), 0);
        due(x.count(5), 0);
        due(x.supportOf(1, 1), 1);
        due(x.supportOf(2, 0), 5);
        due(x.loadOf(0, 2), 0);
        due(x.loadOf(0, 3), 1);
        due(x.loadOf(1, 0), 1);
        due(x.loadOf(1, 1), 8);
        due(x.loadOf(1, 2), -9);
        due(x.loadOf(1, 3), 0);
        due(x.count(3), 1);
        due(x.undo(), NOT);
        due(read(x, "point 3 4;beam 10;support 10"), 3);
        due(x.count(0), 10);
        due(x.count(1), 1);
        due(x.count(2), 0);
        due(x.count(3), 0);
        due(read(x, "beam 02"), 1);
        due(x.count(0), 2);
    }

    private static void prints() {
        begin(30);
        BeamPieces x = of(2, 0);
        due(x.prints(), STATE);
        x.support(2);
        printed(x, "0: 0;1: 0;");
        x.point(1, 1);
        printed(x, "0: 0+1/2x;1: 1/2-1/2x;");
        x.lift(0);
        x.spread(0, 2, -3);
        printed(x, "0: 0-3x+3/2xx;1: -3/2+3/2xx;");
        x.drop(0);
        due(x.prints(), STATE);
        due(x.count(6), 28);
        BeamPieces y = of(8, 0, 4, 8);
        y.spread(0, 8, 2);
        printed(y, "0: 0+3x-1xx;1: 2+1x-1xx;2: 2-1x-1xx;3: 0-3x-1xx;4: -4+5x-1xx;5: 0+3x-1xx;6: 2+1x-1xx;7: 2-1x-1xx;");
    }

    private static void paper() {
        begin(31);
        BeamPieces x = of(2, 0, 2);
        due(x.paper(0), NOT);
        due(x.paper(-1), BAD);
        due(x.paper(LOW), BAD);
        due(x.paper(HIGH), NOT);
        x.prints();
        due(x.paper(0), '0');
        due(x.paper(9), ';');
        due(x.paper(10), NOT);
        due(x.paper(-1), BAD);
    }

    private static void list() {
        begin(32);
        BeamPieces x = new BeamPieces();
        due(x.list(-1, 3), BAD);
        due(x.list(3, 3), BAD);
        due(x.list(3, -3), BAD);
        due(x.list(0, 25), BAD);
        due(x.list(0, -1), BELOW);
        due(x.list(0, LOW), BELOW);
        due(x.get(0, 0), NO);
        due(x.set(0, 0, 1), NOTHING);
        due(x.list(0, 24), 1);
        due(x.get(0, 23), 0);
        due(x.get(0, 24), NO);
        due(x.set(0, 23, 5), 1);
        due(x.set(0, 0, 6), 1);
        due(x.list(0, 25), BAD);
        due(x.get(0, 23), 5);
        due(x.list(0, 24), 1);
        due(x.get(0, 23), 0);
        due(x.get(0, 0), 0);
        due(x.set(0, 2, 5), 1);
        due(x.list(0, 0), 1);
        due(x.set(0, 0, 1), BEYOND);
        due(x.list(0, 3), 1);
        due(x.get(0, 2), 0);
        due(x.list(2, 0), 1);
        due(x.count(4), 0);
    }

    private static void set() {
        begin(33);
        BeamPieces x = new BeamPieces();
        due(x.set(-1, 0, 1), BAD);
        due(x.set(3, 0, 1), BAD);
        due(x.set(1, -1, 1), NOTHING);
        x.list(1, 3);
        due(x.set(1, -1, 1), BEYOND);
        due(x.set(1, 3, 1), BEYOND);
        due(x.set(1, 0, Long.MAX_VALUE), 1);
        due(x.set(1, 2, -7), 1);
        due(x.get(1, 0), Long.MAX_VALUE);
        due(x.get(1, 1), 0);
        due(x.get(1, 2), -7);
        due(x.get(0, 0), NO);
        due(x.get(2, 0), NO);
    }

    private static void get() {
        begin(34);
        BeamPieces x = new BeamPieces();
        x.list(0, 2);
        x.list(2, 24);
        x.set(0, 1, 3);
        x.set(2, 0, 4);
        x.set(2, 23, 5);
        due(x.get(0, 1), 3);
        due(x.get(2, 0), 4);
        due(x.get(2, 23), 5);
        due(x.get(0, 2), NO);
        due(x.get(0, -1), NO);
        due(x.get(1, 0), NO);
        due(x.get(-1, 0), NO);
        due(x.get(3, 0), NO);
        due(x.get(HIGH, HIGH), NO);
    }

    private static void into() {
        begin(35);
        BeamPieces x = of(2, 0);
        due(x.into(3, -1), BAD);
        due(x.into(-1, 0), BAD);
        due(x.into(0, -1), STATE);
        x.support(2);
        x.point(1, 1);
        due(x.into(0, -1), NOTHING);
        x.list(0, 8);
        due(x.into(0, -1), BEYOND);
        due(x.into(0, 8), 0);
        due(x.into(0, HIGH), 0);
        x.set(0, 0, 9);
        x.set(0, 7, 9);
        due(x.into(0, 1), 6);
        long[] want = {9, 0, 1, 1, 2, 0, 1, 9};
        for (int i = 0; i < want.length; i++) {
            due(x.get(0, i), want[i]);
        }
        // a number above alone
        due(x.into(0, 5), 3);
        due(x.get(0, 7), 1);
        x.list(1, 0);
        due(x.into(1, 0), 0);
        BeamPieces y = of(10, 0, 10);
        y.list(2, 24);
        due(y.into(2, 0), 22);
        due(y.into(2, 2), 22);
        due(y.into(2, 3), 21);
    }

    private static void judge() {
        begin(36);
        BeamPieces x = of(2, 0);
        due(x.judge(3, 0), BAD);
        due(x.judge(-1, 0), BAD);
        due(x.judge(0, -1), BAD);
        due(x.judge(0, 0), STATE);
        x.support(2);
        x.point(1, 1);
        due(x.judge(0, 0), NOTHING);
        x.list(0, 8);
        x.into(0, 1);
        due(x.judge(0, 1), NOT);
        due(x.judge(0, 8), 100);
        due(x.judge(0, HIGH), 100);
        due(x.judge(0, 0), 0);
        x.set(0, 4, 3);
        due(x.judge(0, 1), 1);
        x.into(0, 1);
        x.set(0, 6, 2);
        due(x.judge(0, 1), 2);
        due(x.into(0, 3), 5);
        // 0/1, 1/2, and the 0 of the last alone
        due(x.judge(0, 3), 102);
        x.set(0, 7, 1);
        due(x.judge(0, 3), 2);
        due(x.into(0, 4), 4);
        due(x.judge(0, 4), 102);
        due(x.into(0, 5), 3);
        due(x.judge(0, 5), 101);
        x.list(1, 0);
        due(x.judge(1, 0), 100);
        due(x.judge(1, 5), 100);
    }

    private static void undo() {
        begin(37);
        BeamPieces x = new BeamPieces();
        due(x.undo(), NOT);
        x.support(0);
        x.hinge(0, 1);
        x.support(4);
        x.drop(0);
        x.point(2, 3);
        x.spread(0, 4, 5);
        x.heavier(0, 4);
        x.lift(0);
        x.axle(0, 1);
        x.unhitch();
        due(x.undo(), 9);
        due(x.count(3), 1);
        due(x.undo(), 8);
        due(x.count(3), 0);
        due(x.loadOf(0, 3), 0);
        due(x.undo(), 7);
        due(x.count(2), 2);
        due(x.loadOf(0, 2), 4);
        due(x.undo(), 6);
        due(x.loadOf(0, 2), 3);
        due(x.undo(), 5);
        due(x.count(2), 1);
        due(x.undo(), 4);
        due(x.count(2), 0);
        due(x.undo(), 3);
        due(x.count(1), 2);
        due(x.supportOf(0, 1), 1);
        due(x.undo(), 2);
        due(x.undo(), 1);
        due(x.supportOf(0, 1), 0);
        due(x.undo(), 0);
        due(x.count(1), 0);
        due(x.undo(), NOT);
        // only the latest ten, and those told again after some have been undone
        for (int i = 0; i < 6; i++) {
            x.point(i, i);
        }
        for (int i = 0; i < 6; i++) {
            x.heavier(i, 9);
        }
        due(x.count(4), 10);
        for (int i = 9; i >= 4; i--) {
            due(x.undo(), i);
        }
        due(x.loadOf(5, 2), 5);
        due(x.lift(5), 5);
        due(x.count(4), 5);
        for (int i = 4; i >= 0; i--) {
            due(x.undo(), i);
        }
        due(x.undo(), NOT);
        due(x.count(2), 2);
        // what is refused is no change
        x.point(0, 10);
        x.drop(0);
        x.lift(7);
        x.image();
        x.list(0, 3);
        due(x.count(4), 0);
    }

    private static void image() {
        begin(38);
        BeamPieces x = of(6, 0, 3, 6);
        x.hinge(3, 1);
        x.point(2, 3);
        x.axle(4, 5);
        int changes = x.count(4);
        due(x.image(), 6);
        due(x.count(4), changes);
        x.undo();
        x.undo();
        x.undo();
        x.beam(9);
        due(x.back(), 6);
        due(x.count(1), 3);
        due(x.supportOf(1, 1), 1);
        due(x.loadOf(0, 2), 3);
        due(x.count(3), 1);
        x.beam(5);
        due(x.image(), 5);
        x.beam(7);
        due(x.back(), 5);
        due(x.count(1), 0);
    }

    private static void back() {
        begin(39);
        BeamPieces x = of(6, 0, 6);
        due(x.back(), NOT);
        due(x.count(4), 2);
        x.image();
        x.feed('a');
        x.list(0, 2);
        x.set(0, 1, 4);
        x.prints();
        int printed = x.count(6);
        x.drop(0);
        x.spread(0, 6, 2);
        due(x.back(), 6);
        due(x.count(1), 2);
        due(x.count(2), 0);
        due(x.count(4), 0);
        due(x.undo(), NOT);
        due(x.count(5), 1);
        due(x.count(6), printed);
        due(x.get(0, 1), 4);
        // what comes later leaves the image as it is
        x.point(1, 1);
        due(x.back(), 6);
        due(x.count(2), 0);
    }
}
