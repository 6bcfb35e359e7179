/** LISTS, CHANGES that are UNDONE, THE IMAGE (promises 32 to 39). */
final class RowSentences extends Sentences {
    private RowSentences() {
    }

    static void all() {
        lists();
        changes();
        list();
        set();
        get();
        into();
        judge();
        undo();
        image();
        back();
    }

    /** MOMENTS 0, 1/2, 0 at its PLACES. */
    private static BeamPieces half() {
        BeamPieces x = of(2, 0, 2);
        x.point(1, 1);
        return x;
    }

    private static void holds(BeamPieces x, int list, long... want) {
        for (int i = 0; i < want.length; i++) {
            due(x.get(list, i), want[i]);
        }
        due(x.get(list, want.length), NO);
    }

    private static void lists() {
        says(TERMS, "LISTS 0 .. 2 hold nothing (at first) or a row of 0 .. 24 longs (0 at first).", () -> {
            BeamPieces x = new BeamPieces();
            each(NO, list -> x.get(list, 0), 0, 1, 2);
            each(NOTHING, list -> x.set(list, 0, 1), 0, 1, 2);
            each(BAD, list -> x.list(list, 1), -1, 3);
            each(BAD, n -> x.list(0, n), 25);
            each(1, list -> x.list(list, 24), 0, 1, 2);
            each(0, i -> x.get(2, i), 0, 1, 12, 23);
            each(NO, i -> x.get(2, i), 24);
        });
        says(TERMS, "A LIST of 0 is a row of none.", () -> {
            BeamPieces x = half();
            due(x.list(1, 0), 1);
            due(x.set(1, 0, 1), BEYOND);
            due(x.get(1, 0), NO);
            due(x.into(1, 0), 0);
            due(x.judge(1, 0), 100);
            // one that held more holds none of it any longer
            x.list(1, 3);
            x.list(1, 0);
            due(x.set(1, 0, 1), BEYOND);
        });
        says(TERMS, "into() from a place at or beyond the end: 0.", () -> {
            BeamPieces x = half();
            x.list(0, 3);
            x.set(0, 2, 9);
            each(0, p -> x.into(0, p), 3, 4, 24, 25, HIGH);
            holds(x, 0, 0, 0, 9);
            x.list(0, 24);
            each(0, p -> x.into(0, p), 24, 25, HIGH);
        });
        says(TERMS, "Into a LIST a number above may come alone.", () -> {
            BeamPieces x = half();
            x.list(0, 3);
            due(x.into(0, 0), 3);
            holds(x, 0, 0, 1, 1);
            due(x.into(0, 2), 1);
            holds(x, 0, 0, 1, 0);
        });
        says(TERMS, "judge() goes number by number;", () -> {
            BeamPieces x = half();
            x.list(0, 6);
            x.into(0, 0);
            // 2/4 is as much as 1/2, but it is otherwise; so is a wrong below alone
            x.set(0, 2, 2);
            x.set(0, 3, 4);
            due(x.judge(0, 0), 1);
            x.set(0, 2, 1);
            due(x.judge(0, 0), 1);
            x.set(0, 3, 2);
            due(x.judge(0, 0), NOT);
            x.set(0, 5, -1);
            due(x.judge(0, 0), 2);
            x.set(0, 1, 0);
            due(x.judge(0, 0), 0);
        });
        says(TERMS, "JUDGED: of a PLACE whose number above alone is in the LIST: that PLACE, if it is wrong; "
            + "else it wasn't looked at whole.", () -> {
                BeamPieces x = half();
                x.list(0, 5);
                x.into(0, 0);
                due(x.judge(0, 0), 102);
                x.set(0, 4, 7);
                due(x.judge(0, 0), 2);
                x.list(0, 1);
                due(x.judge(0, 0), 100);
                x.set(0, 0, 1);
                due(x.judge(0, 0), 0);
            });
    }

    private static void changes() {
        says(TERMS, "CHANGES: supports that come, go, HINGES, LOADS that come, go, become otherwise, AXLES:", () -> {
            BeamPieces x = new BeamPieces();
            x.support(2);
            x.hinge(2, 1);
            x.support(4);
            x.drop(2);
            x.point(2, 3);
            x.spread(0, 4, 5);
            x.heavier(0, 4);
            x.lift(0);
            x.axle(0, 1);
            x.unhitch();
            // after each: supports, hinge of the first one, loads, v of the first one, axles
            int[][] were = {{1, 0, 1, 5, 1}, {1, 0, 1, 5, 0}, {1, 0, 2, 4, 0}, {1, 0, 2, 3, 0}, {1, 0, 1, 3, 0},
                {1, 0, 0, BAD, 0}, {2, 1, 0, BAD, 0}, {1, 1, 0, BAD, 0}, {1, 0, 0, BAD, 0}, {0, BAD, 0, BAD, 0}};
            for (int i = 0; i < were.length; i++) {
                due(x.undo(), 9 - i);
                due(x.count(1), were[i][0]);
                due(x.supportOf(0, 1), were[i][1]);
                due(x.count(2), were[i][2]);
                due(x.loadOf(0, 2), were[i][3]);
                due(x.count(3), were[i][4]);
            }
        });
        says(TERMS, "the latest 10 can be UNDONE, the latest first, one by one;", () -> {
            BeamPieces x = of(4);
            x.point(0, 0);
            for (int v = 1; v <= 9; v++) {
                x.heavier(0, v);
                due(x.count(4), v + 1);
            }
            for (int v = -9; v <= -5; v++) {
                x.heavier(0, v);
                due(x.count(4), 10);
            }
            int[] were = {-6, -7, -8, -9, 9, 8, 7, 6, 5, 4};
            for (int i = 0; i < 10; i++) {
                due(x.undo(), 9 - i);
                due(x.loadOf(0, 2), were[i]);
            }
            due(x.undo(), NOT);
            due(x.loadOf(0, 2), 4);
        });
        says(TERMS, "beam(), reads(), back() leave none.", () -> {
            for (int which = 0; which < 3; which++) {
                BeamPieces x = of(4, 0, 4);
                x.image();
                x.point(1, 1);
                feed(x, "point 2 2");
                due(x.count(4), 3);
                due(which == 0 ? x.beam(4) : which == 1 ? x.reads() : x.back(), which == 1 ? 1 : 4);
                due(x.count(4), 0);
                due(x.undo(), NOT);
            }
            // refused ones do not
            BeamPieces y = of(4, 0, 4);
            y.beam(1);
            y.reads();
            y.back();
            due(y.count(4), 2);
        });
        says(TERMS, "THE IMAGE keeps LENGTH, SUPPORTS, HINGES, LOADS, AXLES.", () -> {
            BeamPieces x = of(5, 0, 3, 5);
            x.hinge(3, 1);
            x.spread(1, 4, -2);
            x.point(2, 7);
            x.axle(1, 6);
            x.image();
            x.beam(9);
            x.support(9);
            x.point(9, 9);
            due(x.back(), 5);
            int[] counts = {5, 3, 2, 1, 0, 0, 0, 1};
            for (int what = 0; what < 8; what++) {
                due(x.count(what), counts[what]);
            }
            due(x.supportOf(1, 0), 3);
            due(x.supportOf(1, 1), 1);
            due(x.supportOf(2, 1), 0);
            int[][] loads = {{1, 4, -2, 0}, {2, 2, 7, 1}};
            for (int what = 0; what < 4; what++) {
                due(x.loadOf(0, what), loads[0][what]);
                due(x.loadOf(1, what), loads[1][what]);
            }
            due(x.presses(0, 0), 6);
            due(x.presses(0, 2), 1);
        });
    }

    private static void list() {
        says(32, "A LIST becomes a row of n longs, all 0: 1", () -> {
            BeamPieces x = new BeamPieces();
            for (int n = 0; n <= 24; n++) {
                due(x.list(1, n), 1);
                due(x.get(1, n), NO);
                due(x.get(1, n - 1), n == 0 ? NO : 0);
            }
            x.set(1, 0, 5);
            x.set(1, 23, 6);
            due(x.list(1, 24), 1);
            due(x.get(1, 0), 0);
            due(x.get(1, 23), 0);
            // what a longer row held is not there again
            x.set(1, 2, 7);
            x.list(1, 1);
            x.list(1, 3);
            holds(x, 1, 0, 0, 0);
        });
        says(32, "BAD: list", () -> {
            BeamPieces x = new BeamPieces();
            each(BAD, list -> x.list(list, 1), LOW, -1, 3, HIGH);
            each(BAD, list -> x.list(list, -1), LOW, -1, 3, HIGH);
        });
        says(32, "n above 24", () -> {
            BeamPieces x = new BeamPieces();
            x.list(0, 2);
            x.set(0, 1, 5);
            each(BAD, n -> x.list(0, n), 25, 26, HIGH);
            holds(x, 0, 0, 5);
        });
        says(32, "BELOW", () -> {
            BeamPieces x = new BeamPieces();
            x.list(0, 2);
            x.set(0, 1, 5);
            each(BELOW, n -> x.list(0, n), -1, -2, LOW);
            holds(x, 0, 0, 5);
            each(BELOW, n -> x.list(2, n), -1, LOW);
            due(x.set(2, 0, 1), NOTHING);
        });
    }

    private static void set() {
        says(33, "Place i of a LIST becomes v: 1", () -> {
            BeamPieces x = new BeamPieces();
            x.list(0, 3);
            x.list(1, 24);
            x.list(2, 24);
            due(x.set(0, 0, Long.MIN_VALUE + 1), 1);
            due(x.set(0, 2, Long.MAX_VALUE), 1);
            due(x.set(1, 23, -1), 1);
            due(x.set(2, 0, -2), 1);
            due(x.set(2, 23, NO), 1);
            holds(x, 0, Long.MIN_VALUE + 1, 0, Long.MAX_VALUE);
            due(x.get(1, 23), -1);
            due(x.get(1, 0), 0);
            due(x.get(2, 0), -2);
            due(x.get(2, 23), NO);
        });
        says(33, "BAD", () -> {
            BeamPieces x = new BeamPieces();
            x.list(0, 3);
            each(BAD, list -> x.set(list, 0, 1), LOW, -1, 3, HIGH);
        });
        says(33, "NOTHING", () -> {
            BeamPieces x = new BeamPieces();
            x.list(1, 3);
            each(NOTHING, list -> x.set(list, 0, 1), 0, 2);
            due(x.get(0, 0), NO);
        });
        says(33, "BEYOND", () -> {
            BeamPieces x = new BeamPieces();
            x.list(0, 3);
            x.list(1, 3);
            each(BEYOND, i -> x.set(0, i, 1), LOW, -1, 3, 24, 25, HIGH);
            each(BEYOND, i -> x.set(1, i, 1), LOW, -1, -24, 3, 24, HIGH);
            holds(x, 0, 0, 0, 0);
            holds(x, 1, 0, 0, 0);
        });
    }

    private static void get() {
        BeamPieces x = new BeamPieces();
        x.list(0, 2);
        x.set(0, 0, 3);
        x.set(0, 1, -4);
        says(34, "Place i of a LIST", () -> {
            due(x.get(0, 0), 3);
            due(x.get(0, 1), -4);
        });
        says(34, "NO: no such LIST", () -> each(NO, list -> x.get(list, 0), LOW, -1, 3, HIGH));
        says(34, "nothing there", () -> each(NO, list -> x.get(list, 0), 1, 2));
        says(34, "no such place", () -> each(NO, i -> x.get(0, i), LOW, -1, 2, 24, HIGH));
    }

    private static void into() {
        says(35, "MOMENTS at PLACES 0, 1, .., each above, then below the line, "
            + "come into a LIST from place p on", () -> {
            BeamPieces x = half();
            x.list(0, 8);
            x.set(0, 0, 9);
            x.set(0, 7, 9);
            x.into(0, 1);
            holds(x, 0, 9, 0, 1, 1, 2, 0, 1, 9);
            x.list(2, 6);
            x.heavier(0, -1);
            x.into(2, 0);
            holds(x, 2, 0, 1, -1, 2, 0, 1);
        });
        says(35, "until either ends: how many numbers", () -> {
            BeamPieces x = half();
            x.list(0, 8);
            each(6, p -> x.into(0, p), 0, 1, 2);
            due(x.into(0, 3), 5);
            due(x.into(0, 7), 1);
            BeamPieces y = of(10, 0, 10);
            y.list(1, 24);
            each(22, p -> y.into(1, p), 0, 1, 2);
            due(y.into(1, 3), 21);
            due(y.into(1, 23), 1);
        });
        says(35, "BAD: list", () -> {
            BeamPieces x = half();
            each(BAD, list -> x.into(list, 0), LOW, -1, 3, HIGH);
        });
        says(35, "STATE", () -> {
            BeamPieces x = of(2, 0);
            x.list(0, 2);
            each(STATE, list -> x.into(list, 0), 0, 1);
            holds(x, 0, 0, 0);
        });
        says(35, "NOTHING", () -> each(NOTHING, list -> half().into(list, 0), 0, 1, 2));
        says(35, "BEYOND: p is below 0", () -> {
            BeamPieces x = half();
            x.list(1, 2);
            each(BEYOND, p -> x.into(1, p), -1, -2, -24, LOW);
            holds(x, 1, 0, 0);
        });
    }

    private static void judge() {
        says(36, "A LIST tells MOMENTS so from place p on: the first PLACE of which it is otherwise", () -> {
            BeamPieces x = half();
            x.list(0, 8);
            x.into(0, 1);
            due(x.judge(0, 0), 0);
            // place 0 of the LIST is left out, as is what is behind the MOMENTS
            x.set(0, 0, 5);
            x.set(0, 7, 5);
            due(x.judge(0, 1), NOT);
            int[] otherwise = {-1, 0, 0, 1, 1, 2, 2};
            for (int i = 6; i >= 1; i--) {
                x.set(0, i, 7);
                due(x.judge(0, 1), otherwise[i]);
            }
        });
        says(36, "NOT: all are so", () -> {
            BeamPieces x = half();
            x.list(0, 6);
            x.into(0, 0);
            due(x.judge(0, 0), NOT);
            x.heavier(0, 2);
            due(x.judge(0, 0), 1);
            BeamPieces y = of(10, 0, 10);
            y.list(1, 24);
            y.into(1, 2);
            due(y.judge(1, 2), NOT);
        });
        says(36, "100 plus how many PLACES were looked at whole: it ends ahead of that", () -> {
            BeamPieces x = half();
            x.list(0, 8);
            int[] want = {NOT, NOT, NOT, 102, 102, 101, 101, 100, 100};
            for (int p = 0; p <= 8; p++) {
                x.into(0, p);
                due(x.judge(0, p), want[p]);
            }
            each(100, p -> x.judge(0, p), 9, 24, 25, HIGH);
        });
        says(36, "BAD: list, p below 0", () -> {
            BeamPieces x = half();
            x.list(0, 2);
            each(BAD, list -> x.judge(list, 0), LOW, -1, 3, HIGH);
            each(BAD, p -> x.judge(0, p), LOW, -1);
            // also where there is nothing, and where it does not STAND
            due(x.judge(1, -1), BAD);
            due(of(2).judge(1, -1), BAD);
        });
        says(36, "STATE", () -> {
            BeamPieces x = of(2, 0);
            x.list(0, 2);
            each(STATE, list -> x.judge(list, 0), 0, 1);
        });
        says(36, "NOTHING", () -> each(NOTHING, list -> half().judge(list, 0), 0, 1, 2));
    }

    private static void undo() {
        says(37, "The latest CHANGE is UNDONE", () -> {
            BeamPieces x = of(4, 0, 4);
            x.hinge(4, 1);
            x.undo();
            due(x.supportOf(1, 1), 0);
            x.undo();
            due(x.count(1), 1);
            // a new one stands where the undone ones were
            x.support(2);
            due(x.count(4), 2);
            x.undo();
            due(x.count(1), 1);
            x.undo();
            due(x.count(1), 0);
        });
        says(37, "how many still can be", () -> {
            BeamPieces x = of(4);
            for (int i = 0; i < 6; i++) {
                x.point(i % 4, i);
            }
            for (int i = 0; i < 6; i++) {
                x.heavier(i, 9);
            }
            // of these twelve the first two can't be any longer
            for (int left = 9; left >= 4; left--) {
                due(x.undo(), left);
            }
            due(x.loadOf(5, 2), 5);
            due(x.lift(5), 5);
            for (int left = 4; left >= 0; left--) {
                due(x.undo(), left);
            }
            due(x.undo(), NOT);
            due(x.count(2), 2);
        });
        says(37, "NOT: none", () -> {
            BeamPieces x = of(4);
            due(x.undo(), NOT);
            x.support(1);
            x.undo();
            due(x.undo(), NOT);
            due(x.undo(), NOT);
            due(x.count(0), 4);
        });
    }

    private static void image() {
        says(38, "THE IMAGE is kept", () -> {
            BeamPieces x = of(6, 0, 6);
            x.image();
            x.drop(0);
            x.beam(4);
            due(x.back(), 6);
            due(x.count(1), 2);
            // a later one in its place; laying it back does not use it up
            x.support(3);
            x.image();
            x.beam(4);
            due(x.back(), 6);
            due(x.count(1), 3);
            x.drop(3);
            due(x.back(), 6);
            due(x.count(1), 3);
        });
        says(38, "LENGTH", () -> {
            each(8, unused -> new BeamPieces().image(), 0);
            each(2, length -> of(length).image(), 2);
            each(10, length -> of(length).image(), 10);
        });
    }

    private static void back() {
        says(39, "It is laid back", () -> {
            BeamPieces x = of(6, 0, 6);
            x.image();
            x.point(1, 1);
            x.axle(1, 1);
            x.hinge(0, 1);
            x.back();
            due(x.count(1), 2);
            due(x.supportOf(0, 1), 0);
            each(0, x::count, 2, 3);
            // changes made after it leave THE IMAGE as it is
            x.point(2, 2);
            x.undo();
            x.drop(0);
            x.back();
            due(x.count(1), 2);
        });
        says(39, "LENGTH", () -> {
            BeamPieces x = of(6);
            x.image();
            due(x.back(), 6);
            x.beam(3);
            due(x.back(), 6);
            due(x.count(0), 6);
        });
        says(39, "NOT: there is none", () -> {
            BeamPieces x = of(6, 0, 6);
            due(x.back(), NOT);
            due(x.count(1), 2);
            due(x.count(4), 2);
        });
    }
}
