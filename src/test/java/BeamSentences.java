/** THE BEAM itself: what comes, goes, becomes otherwise, and what is told of it (promises 1 to 14). */
final class BeamSentences extends Sentences {
    private BeamSentences() {
    }

    static void all() {
        lengths();
        supports();
        hinges();
        loads();
        said();
        newObject();
        beam();
        support();
        drop();
        hinge();
        point();
        spread();
        heavier();
        lift();
        axle();
        loadOf();
        supportOf();
        count();
    }

    private static BeamPieces full() {
        BeamPieces x = of(8, 0, 3, 6, 8);
        for (int i = 0; i < 6; i++) {
            x.point(i, i + 1);
        }
        x.axle(0, 1);
        x.axle(1, 2);
        x.axle(2, 3);
        return x;
    }

    private static void lengths() {
        says(TERMS, "THE BEAM goes from 0 to LENGTH (2 .. 10; 8 at first).", () -> {
            BeamPieces x = new BeamPieces();
            due(x.count(0), 8);
            due(x.support(8), 0);
            due(x.support(9), BAD);
            due(x.beam(1), BAD);
            due(x.beam(11), BAD);
            due(x.count(0), 8);
            due(x.beam(2), 8);
            due(x.support(2), 0);
            due(x.support(3), BAD);
            due(x.beam(10), 2);
            due(x.support(10), 0);
            due(x.support(11), BAD);
        });
        says(TERMS, "PIECES 0 .. LENGTH - 1, each 1 long.", () -> {
            printed(of(2, 0, 2), "0: 0;1: 0;");
            printed(of(10, 0, 2), "0: 0;1: 0;2: 0;3: 0;4: 0;5: 0;6: 0;7: 0;8: 0;9: 0;");
        });
    }

    private static void supports() {
        says(TERMS, "SUPPORTS at PLACES (0 .. LENGTH,", () -> {
            BeamPieces x = of(5);
            due(x.support(-1), BAD);
            due(x.support(6), BAD);
            due(x.support(0), 0);
            due(x.support(5), 1);
        });
        says(TERMS, "none two at one;", () -> {
            BeamPieces x = of(5, 0, 3);
            due(x.support(0), STATE);
            due(x.support(3), STATE);
            due(x.count(1), 2);
        });
        says(TERMS, "4 at most;", () -> {
            BeamPieces x = of(5, 0, 1, 2);
            due(x.support(3), 3);
            due(x.support(4), FULL);
            due(x.count(1), 4);
            due(x.drop(0), 3);
            due(x.support(4), 3);
        });
        says(TERMS, "none at first),", () -> due(new BeamPieces().count(1), 0));
        says(TERMS, "numbered from the left;", () -> {
            BeamPieces x = of(9);
            due(x.support(6), 0);
            due(x.support(2), 0);
            due(x.support(9), 2);
            due(x.support(4), 1);
            int[] places = {2, 4, 6, 9};
            for (int k = 0; k < 4; k++) {
                due(x.supportOf(k, 0), places[k]);
            }
        });
    }

    private static void hinges() {
        says(TERMS, "a HINGE may be on each (not at first;", () -> {
            BeamPieces x = of(8, 0, 3, 6, 8);
            for (int k = 0; k < 4; k++) {
                due(x.supportOf(k, 1), 0);
                due(x.hinge(x.supportOf(k, 0), 1), 0);
                due(x.supportOf(k, 1), 1);
            }
        });
        says(TERMS, "it counts on inner SUPPORTS alone, those that are neither the first nor the last).", () -> {
            BeamPieces x = of(8, 2, 4, 6);
            x.point(0, 3);
            x.point(8, 1);
            x.hinge(2, 1);
            x.hinge(6, 1);
            due(x.moment(2, 1, 0), -6);
            due(x.moment(6, 1, 0), -2);
            // 2 (2 + 2) M = -(2 * -6 + 2 * -2)
            due(x.moment(4, 1, 0), 2);
            x.hinge(4, 1);
            due(x.moment(4, 1, 0), 0);
        });
        String kept = "A HINGE on the first or last SUPPORT is kept, and does nothing until that is an inner one;";
        says(TERMS, kept, () -> {
            BeamPieces x = of(8, 3, 5);
            x.point(0, 1);
            x.point(8, 1);
            x.hinge(3, 1);
            x.hinge(5, 1);
            due(x.supportOf(0, 1), 1);
            due(x.supportOf(1, 1), 1);
            due(x.moment(3, 1, 0), -3);
            due(x.moment(5, 1, 0), -3);
            x.support(0);
            due(x.moment(3, 1, 0), 0);
            due(x.moment(5, 1, 0), -3);
            x.support(8);
            due(x.moment(5, 1, 0), 0);
            x.drop(0);
            due(x.moment(5, 1, 0), 0);
            x.heavier(0, 2);
            due(x.moment(3, 1, 0), -6);
        });
    }

    private static void loads() {
        says(TERMS, "LOADS, numbered as they come (6 at most):", () -> {
            BeamPieces x = of(8);
            for (int i = 0; i < 6; i++) {
                due(i % 2 == 0 ? x.point(8 - i, i) : x.spread(0, 8 - i, i), i);
                due(x.loadOf(i, 2), i);
            }
            due(x.point(1, 1), FULL);
            due(x.spread(1, 2, 1), FULL);
            due(x.count(2), 6);
        });
        says(TERMS, "a POINT load of v (-9 .. 9) at a PLACE,", () -> {
            BeamPieces x = of(8, 0, 8);
            due(x.point(0, -10), BAD);
            due(x.point(0, 10), BAD);
            due(x.point(0, -9), 0);
            due(x.point(8, 9), 1);
            due(x.reaction(0, 0), -9);
            due(x.reaction(1, 0), 9);
        });
        says(TERMS, "or a SPREAD one, v on each 1 from a PLACE to a greater one.", () -> {
            BeamPieces x = of(8, 0, 8);
            due(x.spread(3, 3, 4), BAD);
            due(x.spread(4, 3, 4), BAD);
            due(x.spread(3, 5, 4), 0);
            due(x.shear(3, 0), 4);
            due(x.shear(4, 0), 0);
            due(x.shear(5, 0), -4);
            due(x.spread(7, 8, 8), 1);
            fraction(x.shear(7, 0), x.shear(7, 1), -7, 2);
            fraction(x.reaction(1, 0), x.reaction(1, 1), 23, 2);
        });
        says(TERMS, "What is downward is above 0.", () -> {
            BeamPieces x = of(8, 0, 8);
            x.point(4, 6);
            due(x.count(7), 6);
            due(x.reaction(0, 0), 3);
            due(x.sag(4, 0), 64);
            x.heavier(0, -6);
            due(x.count(7), -6);
            due(x.reaction(0, 0), -3);
            due(x.sag(4, 0), -64);
        });
    }

    private static void said() {
        says(TERMS, "Said once more: each call that is not refused is a CHANGE where it may be one, "
            + "also if all stays as it was", () -> {
                BeamPieces x = of(4, 0);
                x.point(1, 3);
                due(x.count(4), 2);
                due(x.hinge(0, 0), 0);
                due(x.count(4), 3);
                due(x.heavier(0, 3), 3);
                due(x.count(4), 4);
                due(x.hinge(3, 0), STATE);
                due(x.heavier(1, 3), BAD);
                due(x.count(4), 4);
                due(x.undo(), 3);
                due(x.undo(), 2);
                due(x.count(2), 1);
                due(x.undo(), 1);
                due(x.count(2), 0);
            });
        says(TERMS, "(unhitch() of none, too).", () -> {
            BeamPieces x = of(4);
            due(x.unhitch(), 0);
            due(x.count(4), 1);
            due(x.unhitch(), 0);
            due(x.count(4), 2);
            due(x.undo(), 1);
            due(x.undo(), 0);
            due(x.undo(), NOT);
        });
        says(TERMS, "heavier() may answer below 0.", () -> {
            BeamPieces x = of(4);
            x.point(1, -9);
            due(x.heavier(0, -1), -9);
            // the same number as BAD's, but it is what it was
            due(x.heavier(0, 5), -1);
            due(x.loadOf(0, 2), 5);
        });
        says(TERMS, "Together (7): of a SPREAD one v times its length.", () -> {
            BeamPieces x = of(10);
            x.spread(0, 10, 9);
            due(x.count(7), 90);
            x.spread(3, 5, -4);
            due(x.count(7), 82);
            x.spread(9, 10, 1);
            due(x.count(7), 83);
            x.point(10, 9);
            due(x.count(7), 92);
        });
        says(TERMS, "beam(), back(): THE PAPER, LISTS, THE TAPE stay.", () -> {
            BeamPieces x = of(2, 0, 2);
            x.image();
            x.prints();
            x.list(0, 2);
            x.set(0, 1, 5);
            feed(x, "beam 1");
            for (int i = 0; i < 2; i++) {
                due(i == 0 ? x.beam(7) : x.back(), 2);
                due(x.count(6), 10);
                due(x.paper(9), ';');
                due(x.get(0, 1), 5);
                due(x.count(5), 6);
            }
            due(read(x, "0"), 1);
            due(x.count(0), 10);
        });
    }

    private static void newObject() {
        says(1, "LENGTH 8", () -> due(new BeamPieces().count(0), 8));
        says(1, "nothing else", () -> {
            BeamPieces x = new BeamPieces();
            for (int what = 1; what <= 7; what++) {
                due(x.count(what), 0);
            }
            due(x.loadOf(0, 0), BAD);
            due(x.supportOf(0, 0), BAD);
            due(x.paper(0), NOT);
            due(x.undo(), NOT);
            due(x.back(), NOT);
            each(NOTHING, list -> x.set(list, 0, 1), 0, 1, 2);
            due(x.reads(), -1000);
        });
    }

    private static void beam() {
        says(2, "LENGTH becomes this", () -> {
            for (int length = 2; length <= 10; length++) {
                due(of(length).count(0), length);
            }
        });
        says(2, "SUPPORTS, LOADS, AXLES are gone", () -> {
            BeamPieces x = full();
            x.hinge(0, 1);
            due(x.beam(8), 8);
            each(0, x::count, 1, 2, 3, 7);
            due(x.supportOf(0, 0), BAD);
            due(x.loadOf(0, 0), BAD);
            due(x.support(0), 0);
            due(x.supportOf(0, 1), 0);
        });
        says(2, "what it was", () -> {
            BeamPieces x = new BeamPieces();
            due(x.beam(3), 8);
            due(x.beam(3), 3);
            due(x.beam(10), 3);
        });
        says(2, "BAD", () -> {
            BeamPieces x = full();
            each(BAD, x::beam, LOW, -1, 0, 1, 11, 12, HIGH);
            due(x.count(0), 8);
            due(x.count(1), 4);
            due(x.count(4), 10);
        });
    }

    private static void support() {
        says(3, "A SUPPORT at a PLACE", () -> {
            BeamPieces x = of(4);
            x.support(3);
            due(x.count(1), 1);
            due(x.supportOf(0, 0), 3);
        });
        says(3, "its number", () -> {
            BeamPieces x = of(4);
            due(x.support(4), 0);
            due(x.support(0), 0);
            due(x.support(2), 1);
            due(x.support(3), 2);
        });
        says(3, "BAD", () -> {
            BeamPieces x = of(4);
            each(BAD, x::support, LOW, -1, 5, HIGH);
            due(x.count(1), 0);
        });
        says(3, "STATE: there is one", () -> {
            BeamPieces x = of(4, 0, 2, 4);
            each(STATE, x::support, 0, 2, 4);
            due(x.count(1), 3);
            due(x.count(4), 3);
        });
        says(3, "FULL: 4", () -> {
            BeamPieces x = full();
            each(FULL, x::support, 1, 2, 4, 5, 7);
            due(x.count(1), 4);
        });
    }

    private static void drop() {
        says(4, "The SUPPORT at a PLACE is gone", () -> {
            BeamPieces x = of(8, 0, 3, 8);
            x.drop(3);
            due(x.supportOf(0, 0), 0);
            due(x.supportOf(1, 0), 8);
            due(x.supportOf(2, 0), BAD);
        });
        says(4, "(its HINGE, too)", () -> {
            BeamPieces x = of(8, 0, 3, 8);
            x.hinge(3, 1);
            x.drop(3);
            due(x.supportOf(1, 1), 0);
            x.support(3);
            due(x.supportOf(1, 1), 0);
            // the hinges of the others go with them
            x.hinge(8, 1);
            x.drop(0);
            due(x.supportOf(0, 1), 0);
            due(x.supportOf(1, 1), 1);
        });
        says(4, "how many are left", () -> {
            BeamPieces x = of(8, 0, 3, 6, 8);
            due(x.drop(8), 3);
            due(x.drop(0), 2);
            due(x.drop(6), 1);
            due(x.drop(3), 0);
        });
        says(4, "BAD", () -> each(BAD, of(4, 0, 4)::drop, LOW, -1, 5, HIGH));
        says(4, "STATE: there is none", () -> {
            BeamPieces x = of(4, 1);
            each(STATE, x::drop, 0, 2, 4);
            due(x.drop(1), 0);
            due(x.drop(1), STATE);
            due(x.count(4), 2);
        });
    }

    private static void hinge() {
        says(5, "Of the SUPPORT at a PLACE: a HINGE (is 1), or none (0)", () -> {
            BeamPieces x = of(4, 0, 2, 4);
            x.hinge(2, 1);
            due(x.supportOf(0, 1), 0);
            due(x.supportOf(1, 1), 1);
            due(x.supportOf(2, 1), 0);
            x.hinge(2, 0);
            due(x.supportOf(1, 1), 0);
        });
        says(5, "what was", () -> {
            BeamPieces x = of(4, 0);
            due(x.hinge(0, 1), 0);
            due(x.hinge(0, 1), 1);
            due(x.hinge(0, 0), 1);
            due(x.hinge(0, 0), 0);
        });
        says(5, "BAD", () -> {
            BeamPieces x = of(4, 0, 4);
            each(BAD, place -> x.hinge(place, 1), LOW, -1, 5, HIGH);
            each(BAD, is -> x.hinge(4, is), LOW, -1, 2, HIGH);
            due(x.supportOf(1, 1), 0);
        });
        says(5, "STATE: there is no SUPPORT", () -> {
            BeamPieces x = of(4, 0, 4);
            each(STATE, place -> x.hinge(place, 1), 1, 2, 3);
            each(STATE, place -> x.hinge(place, 0), 1, 2, 3);
            due(x.count(4), 2);
        });
    }

    private static void point() {
        says(6, "A POINT load", () -> {
            BeamPieces x = of(4);
            x.point(4, -3);
            due(x.loadOf(0, 0), 4);
            due(x.loadOf(0, 2), -3);
            due(x.loadOf(0, 3), 1);
        });
        says(6, "its number", () -> {
            BeamPieces x = of(4);
            due(x.point(4, 0), 0);
            due(x.point(0, 0), 1);
            due(x.point(4, 0), 2);
        });
        says(6, "BAD", () -> {
            BeamPieces x = of(4);
            each(BAD, place -> x.point(place, 1), LOW, -1, 5, HIGH);
            each(BAD, v -> x.point(1, v), LOW, -10, 10, HIGH);
            due(x.count(2), 0);
        });
        says(6, "FULL: 6", () -> {
            BeamPieces x = full();
            due(x.point(0, 9), FULL);
            due(x.lift(2), 5);
            due(x.point(0, 9), 5);
            due(x.point(0, 9), FULL);
        });
    }

    private static void spread() {
        says(7, "A SPREAD load", () -> {
            BeamPieces x = of(4);
            x.spread(1, 4, -3);
            due(x.loadOf(0, 0), 1);
            due(x.loadOf(0, 1), 4);
            due(x.loadOf(0, 2), -3);
            due(x.loadOf(0, 3), 0);
        });
        says(7, "its number", () -> {
            BeamPieces x = of(4);
            due(x.spread(3, 4, 0), 0);
            due(x.spread(0, 1, 0), 1);
            due(x.point(0, 1), 2);
            due(x.spread(0, 4, 9), 3);
        });
        says(7, "BAD", () -> {
            BeamPieces x = of(4);
            each(BAD, from -> x.spread(from, 4, 1), LOW, -1, 4, 5, HIGH);
            each(BAD, to -> x.spread(0, to, 1), LOW, -1, 0, 5, HIGH);
            each(BAD, v -> x.spread(0, 4, v), LOW, -10, 10, HIGH);
            due(x.count(2), 0);
        });
        says(7, "FULL: 6", () -> {
            BeamPieces x = full();
            due(x.spread(0, 1, 9), FULL);
            due(x.lift(0), 5);
            due(x.spread(0, 1, 9), 5);
            due(x.spread(0, 1, 9), FULL);
        });
    }

    private static void heavier() {
        says(8, "v of a LOAD becomes this", () -> {
            BeamPieces x = full();
            x.heavier(5, -9);
            x.heavier(0, 9);
            due(x.loadOf(5, 2), -9);
            due(x.loadOf(0, 2), 9);
            due(x.loadOf(1, 2), 2);
            due(x.loadOf(5, 0), 5);
            due(x.loadOf(5, 3), 1);
        });
        says(8, "what it was", () -> {
            BeamPieces x = full();
            due(x.heavier(5, 0), 6);
            due(x.heavier(5, 7), 0);
        });
        says(8, "BAD", () -> {
            BeamPieces x = full();
            each(BAD, load -> x.heavier(load, 1), LOW, -1, 6, HIGH);
            each(BAD, v -> x.heavier(0, v), LOW, -10, 10, HIGH);
            due(x.loadOf(0, 2), 1);
            due(of(4).heavier(0, 1), BAD);
        });
    }

    private static void lift() {
        says(9, "A LOAD is gone", () -> {
            BeamPieces x = full();
            x.lift(5);
            due(x.count(2), 5);
            due(x.loadOf(5, 0), BAD);
            due(x.loadOf(4, 2), 5);
        });
        says(9, "later ones have 1 less", () -> {
            BeamPieces x = of(8);
            x.point(1, 1);
            x.point(2, 2);
            x.spread(3, 7, 3);
            x.point(4, 4);
            x.lift(1);
            due(x.loadOf(0, 0), 1);
            int[] second = {3, 7, 3, 0};
            int[] third = {4, 4, 4, 1};
            for (int what = 0; what < 4; what++) {
                due(x.loadOf(1, what), second[what]);
                due(x.loadOf(2, what), third[what]);
            }
        });
        says(9, "how many are left", () -> {
            BeamPieces x = full();
            for (int left = 5; left >= 0; left--) {
                due(x.lift(0), left);
            }
        });
        says(9, "BAD", () -> {
            BeamPieces x = full();
            each(BAD, x::lift, LOW, -1, 6, HIGH);
            due(x.count(2), 6);
            due(of(4).lift(0), BAD);
        });
    }

    private static void axle() {
        says(10, "An AXLE comes", () -> {
            BeamPieces x = of(4, 0, 4);
            x.axle(3, 8);
            due(x.count(3), 1);
            due(x.presses(0, 0), 8);
            due(x.presses(0, 2), 3);
        });
        says(10, "how many there are", () -> {
            BeamPieces x = of(4);
            due(x.axle(0, 1), 1);
            due(x.axle(9, 9), 2);
            due(x.axle(0, 1), 3);
        });
        says(10, "BAD", () -> {
            BeamPieces x = of(4);
            each(BAD, behind -> x.axle(behind, 1), LOW, -1, 10, HIGH);
            each(BAD, weight -> x.axle(0, weight), LOW, -1, 0, 10, HIGH);
            due(x.count(3), 0);
        });
        says(10, "FULL: 3", () -> {
            BeamPieces x = full();
            due(x.axle(0, 1), FULL);
            due(x.count(3), 3);
            x.unhitch();
            due(x.axle(0, 1), 1);
        });
        says(11, "No AXLES", () -> {
            BeamPieces x = full();
            x.unhitch();
            due(x.count(3), 0);
            due(x.rolls(1, 0), NO);
        });
        says(11, "how many there were", () -> {
            BeamPieces x = full();
            due(x.unhitch(), 3);
            due(x.unhitch(), 0);
        });
    }

    private static void loadOf() {
        BeamPieces x = of(8);
        x.point(0, -9);
        x.spread(7, 8, 9);
        says(12, "Of a LOAD: 0 where it is or begins", () -> {
            due(x.loadOf(0, 0), 0);
            due(x.loadOf(1, 0), 7);
        });
        says(12, "1 where it ends (POINT: the same)", () -> {
            due(x.loadOf(0, 1), 0);
            due(x.loadOf(1, 1), 8);
        });
        says(12, "2 v", () -> {
            due(x.loadOf(0, 2), -9);
            due(x.loadOf(1, 2), 9);
        });
        says(12, "3 1: it is a POINT one, 0 SPREAD", () -> {
            due(x.loadOf(0, 3), 1);
            due(x.loadOf(1, 3), 0);
        });
        says(12, "BAD", () -> {
            each(BAD, load -> x.loadOf(load, 0), LOW, -1, 2, 6, HIGH);
            each(BAD, what -> x.loadOf(0, what), LOW, -1, 4, HIGH);
        });
    }

    private static void supportOf() {
        BeamPieces x = of(8, 8, 3);
        x.hinge(8, 1);
        says(13, "Of the k-th SUPPORT: its PLACE (what 0)", () -> {
            due(x.supportOf(0, 0), 3);
            due(x.supportOf(1, 0), 8);
        });
        says(13, "whether a HINGE is on it (1)", () -> {
            due(x.supportOf(0, 1), 0);
            due(x.supportOf(1, 1), 1);
        });
        says(13, "BAD", () -> {
            each(BAD, k -> x.supportOf(k, 0), LOW, -1, 2, 4, HIGH);
            each(BAD, what -> x.supportOf(0, what), LOW, -1, 2, HIGH);
        });
    }

    private static void count() {
        BeamPieces x = of(6, 0, 2, 6);
        x.point(3, 7);
        x.spread(1, 5, -3);
        x.axle(1, 1);
        says(14, "How many: 0 LENGTH", () -> due(x.count(0), 6));
        says(14, "1 SUPPORTS", () -> due(x.count(1), 3));
        says(14, "2 LOADS", () -> due(x.count(2), 2));
        says(14, "3 AXLES", () -> due(x.count(3), 1));
        says(14, "4 CHANGES that can be UNDONE", () -> {
            due(x.count(4), 6);
            due(x.undo(), 5);
            due(x.count(4), 5);
            due(full().count(4), 10);
        });
        says(14, "5 bytes on THE TAPE", () -> {
            x.feed(1);
            x.feed(127);
            x.feed(128);
            due(x.count(5), 2);
            x.reads();
            due(x.count(5), 0);
        });
        says(14, "6 of THE PAPER", () -> {
            due(x.count(6), 0);
            BeamPieces y = of(2, 0, 2);
            y.prints();
            due(y.count(6), 10);
        });
        says(14, "7 all LOADS together, downward", () -> {
            due(x.count(7), 7 - 12);
            due(of(3).count(7), 0);
        });
        says(14, "BAD", () -> each(BAD, x::count, LOW, -1, 8, 9, HIGH));
    }
}
