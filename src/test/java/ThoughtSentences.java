/** In thought: what rolls, a unit load, the best place of a support, a hinge put on (promises 22 to 27). */
final class ThoughtSentences extends Sentences {
    private ThoughtSentences() {
    }

    static void all() {
        rolling();
        most();
        unitAndBest();
        rolls();
        presses();
        unit();
        bears();
        best();
        hinged();
    }

    private static void rolling() {
        says(TERMS, "In thought (nothing is changed):", () -> {
            BeamPieces x = of(8, 0, 3, 8);
            x.point(2, 5);
            x.axle(0, 3);
            for (int i = 0; i < 2; i++) {
                due(x.count(4), 5);
                due(x.supportOf(1, 0), 3);
                due(x.supportOf(1, 1), 0);
                // 16 M = -5 * 2 * 5 / 3
                fraction(x.moment(3, 1, 0), x.moment(3, 1, 1), -25, 24);
                x.rolls(2, 0);
                x.presses(1, 0);
                x.unit(5, 5, 0);
                x.bears(5, 1, 0);
                due(x.best(1), 2);
                fraction(x.hinged(1, 0), x.hinged(1, 1), 10, 3);
            }
            due(x.undo(), 4);
            due(x.count(3), 0);
        });
        says(TERMS, "ROLLING: AXLES (3 at most;", () -> {
            BeamPieces x = of(8, 0, 8);
            for (int many = 1; many <= 3; many++) {
                due(x.axle(0, many), many);
            }
            due(x.axle(0, 1), FULL);
            due(x.presses(0, 0), 6);
        });
        says(TERMS, "none at first)", () -> {
            BeamPieces x = new BeamPieces();
            due(x.count(3), 0);
            due(x.unhitch(), 0);
        });
        says(TERMS, ", each of a WEIGHT (1 .. 9), so far BEHIND (0 .. 9) the front;", () -> {
            BeamPieces x = of(10, 0, 10);
            each(BAD, weight -> x.axle(0, weight), 0, 10);
            each(BAD, behind -> x.axle(behind, 1), -1, 10);
            due(x.axle(9, 9), 1);
            due(x.presses(0, 0), 9);
            due(x.presses(0, 2), 9);
            due(x.axle(0, 1), 2);
            // the one at the front is at 9 by then
            fraction(x.presses(0, 0), x.presses(0, 1), 91, 10);
        });
        says(TERMS, "with the front at p (0 .. 19)", () -> {
            BeamPieces x = of(10, 0, 10);
            x.axle(9, 5);
            // it comes to THE BEAM's end with the last p that there is
            due(x.presses(1, 0), 5);
            due(x.presses(1, 2), 19);
            BeamPieces y = of(10, 0, 5, 9);
            y.axle(9, 5);
            // 18 M = 4 * 5, only beyond the last one it bends upward over the middle one
            fraction(y.rolls(5, 0), y.rolls(5, 1), 10, 9);
            due(y.rolls(5, 2), 19);
            x.unhitch();
            x.axle(0, 5);
            due(x.presses(0, 0), 5);
            due(x.presses(0, 2), 0);
        });
        says(TERMS, "each AXLE that is on THE BEAM then (at p less BEHIND, 0 .. LENGTH) is a POINT load there;", () -> {
            BeamPieces x = of(4, 0, 4);
            x.axle(0, 4);
            x.axle(4, 4);
            // at 4 and at 0 with p 4, one alone on it with all else
            due(x.presses(0, 0), 4);
            due(x.presses(0, 2), 0);
            due(x.presses(1, 0), 4);
            due(x.presses(1, 2), 4);
            due(x.rolls(2, 0), 4);
            due(x.rolls(2, 2), 2);
            BeamPieces y = of(4, 1, 3);
            y.axle(1, 2);
            // at 0 with the front at 1, at 4 with the front at 5, that is beyond THE BEAM
            due(y.presses(0, 0), 3);
            due(y.presses(0, 2), 1);
            due(y.presses(1, 0), 3);
            due(y.presses(1, 2), 5);
        });
        says(TERMS, "LOADS are left out.", () -> {
            BeamPieces x = of(4, 0, 4);
            x.axle(0, 4);
            x.point(2, 9);
            x.spread(0, 4, -9);
            due(x.rolls(2, 0), 4);
            due(x.presses(0, 0), 4);
        });
    }

    private static void most() {
        says(TERMS, "MOST of MOMENT at a PLACE, of a REACTION: "
            + "the greatest by all p, and the least p by which.", () -> {
            BeamPieces x = of(4, 0, 4);
            x.axle(0, 4);
            x.axle(1, 4);
            // 4 + 2 with the front at 2 and with the front at 3
            due(x.rolls(2, 0), 6);
            due(x.rolls(2, 2), 2);
            due(x.presses(1, 0), 7);
            due(x.presses(1, 2), 4);
            BeamPieces y = of(10, 4, 8);
            y.axle(0, 4);
            // over the last one only what is beyond it, over the first only what is ahead of it
            due(y.rolls(8, 0), 0);
            due(y.rolls(8, 2), 0);
            due(y.rolls(4, 0), 0);
            due(y.rolls(4, 2), 4);
        });
        BeamPieces z = of(10, 4, 6);
        z.axle(0, 1);
        z.axle(4, 1);
        // at 5 below 0 by each p with an AXLE on it: the first without one is 15
        says(TERMS, "A p by which no AXLE is on THE BEAM counts with 0.", () -> {
            due(z.rolls(5, 0), 0);
            due(z.rolls(5, 1), 1);
            due(z.rolls(5, 2), 15);
        });
        says(TERMS, "SO THAT NOTHING IS READ TWO WAYS. MOST: a p with no AXLE on THE BEAM counts with 0.", () -> {
            BeamPieces x = of(4, 1, 3);
            x.axle(9, 7);
            // with p 0 .. 8 it isn't on yet
            due(x.rolls(1, 0), 0);
            due(x.rolls(1, 2), 0);
            fraction(x.rolls(2, 0), x.rolls(2, 1), 7, 2);
            due(x.rolls(2, 2), 11);
        });
    }

    private static Ratio spanOf(BeamPieces x) {
        Ratio top = Ratio.of(x.greatest(0, 0), x.greatest(0, 1));
        Ratio bottom = Ratio.of(-x.greatest(1, 0), x.greatest(1, 1));
        return top.compareTo(bottom) > 0 ? top : bottom;
    }

    /** The beam of the test below with its k-th support at that place, and the hinge of that one on it. */
    private static BeamPieces moved(int k, int place) {
        int[] places = {1, 4, 7, 9};
        places[k] = place;
        BeamPieces x = of(10, places);
        x.hinge(places[2], 1);
        x.spread(0, 6, 4);
        x.point(5, 9);
        x.point(10, 3);
        return x;
    }

    private static void unitAndBest() {
        says(TERMS, "UNIT: a POINT load of 1 alone at a PLACE.", () -> {
            BeamPieces x = of(4, 0, 4);
            x.point(2, 9);
            x.spread(0, 4, 9);
            x.axle(0, 9);
            due(x.unit(2, 2, 0), 1);
            fraction(x.bears(1, 0, 0), x.bears(1, 0, 1), 3, 4);
        });
        says(TERMS, "BEST: of all free PLACES between its neighbours (or the ends), and its own, "
            + "for a SUPPORT the one by which SPAN is least, of several the least.", () -> {
                int[][] free = {{0, 3}, {2, 6}, {5, 8}, {8, 10}};
                for (int k = 0; k < 4; k++) {
                    int least = free[k][0];
                    for (int place = free[k][0]; place <= free[k][1]; place++) {
                        boolean less = spanOf(moved(k, place)).compareTo(spanOf(moved(k, least))) < 0;
                        least = less ? place : least;
                    }
                    due(moved(0, 1).best(k), least);
                }
            });
        says(TERMS, "BEST: of several the least PLACE, also ahead of its own.", () -> {
            BeamPieces x = of(8, 2, 4, 7);
            due(x.best(0), 0);
            due(x.best(1), 3);
            due(x.best(2), 5);
        });
        says(TERMS, "BEST: its HINGE goes with the SUPPORT;", () -> {
            BeamPieces x = of(8, 0, 2, 8);
            x.point(1, 4);
            x.point(4, 4);
            due(x.best(1), 3);
            x.hinge(2, 1);
            // each side by itself: 4 * 1 * 4 / 5 by 3, 4 * 1 * 3 / 4 by 4
            due(x.best(1), 4);
        });
        says(TERMS, "PLACES 0 and LENGTH are for the first, the last alone.", () -> {
            BeamPieces x = of(8, 3, 4, 5);
            due(x.best(0), 0);
            BeamPieces y = of(8, 0, 1, 2);
            y.point(8, 9);
            due(y.best(1), 1);
            due(y.best(2), 8);
            BeamPieces z = of(3, 0, 1, 2, 3);
            z.point(0, 9);
            for (int k = 0; k < 4; k++) {
                due(z.best(k), k);
            }
        });
    }

    private static void rolls() {
        says(22, "MOST of MOMENT at a PLACE by ROLLING: above, below the line (what 0, 1), p (2)", () -> {
            BeamPieces x = of(4, 0, 4);
            x.axle(0, 3);
            fraction(x.rolls(1, 0), x.rolls(1, 1), 9, 4);
            due(x.rolls(1, 2), 1);
            fraction(x.rolls(4, 0), x.rolls(4, 1), 0, 1);
            due(x.rolls(4, 2), 0);
        });
        says(22, "NO", () -> {
            BeamPieces x = of(4, 0, 4);
            x.axle(0, 3);
            each(NO, place -> x.rolls(place, 0), LOW, -1, 5, HIGH);
            each(NO, what -> x.rolls(1, what), LOW, -1, 3, HIGH);
            x.drop(4);
            due(x.rolls(1, 0), NO);
        });
        says(22, "also there are no AXLES", () -> {
            BeamPieces x = of(4, 0, 4);
            x.point(1, 9);
            each(NO, what -> x.rolls(1, what), 0, 1, 2);
            x.axle(0, 3);
            x.unhitch();
            due(x.rolls(1, 2), NO);
        });
    }

    private static void presses() {
        says(23, "MOST of the REACTION of the k-th SUPPORT by ROLLING, likewise", () -> {
            BeamPieces x = of(6, 0, 4);
            x.axle(0, 2);
            x.axle(3, 1);
            fraction(x.presses(0, 0), x.presses(0, 1), 2, 1);
            due(x.presses(0, 2), 0);
            // the front at 6, the other at 3: 2 * 6/4 + 3/4
            fraction(x.presses(1, 0), x.presses(1, 1), 15, 4);
            due(x.presses(1, 2), 6);
        });
        says(23, "NO", () -> {
            BeamPieces x = of(6, 0, 4);
            due(x.presses(0, 0), NO);
            x.axle(0, 2);
            each(NO, k -> x.presses(k, 0), LOW, -1, 2, HIGH);
            each(NO, what -> x.presses(0, what), LOW, -1, 3, HIGH);
            x.drop(4);
            due(x.presses(0, 0), NO);
        });
    }

    private static void unit() {
        says(24, "UNIT at a PLACE: MOMENT at another one", () -> {
            BeamPieces x = of(8, 0, 4, 8);
            // 16 M = -2 * (16 - 4) / 4
            fraction(x.unit(2, 4, 0), x.unit(2, 4, 1), -3, 8);
            fraction(x.unit(2, 2, 0), x.unit(2, 2, 1), 13, 16);
            fraction(x.unit(4, 2, 0), x.unit(4, 2, 1), 0, 1);
            fraction(x.unit(0, 0, 0), x.unit(0, 0, 1), 0, 1);
            fraction(x.unit(8, 8, 0), x.unit(8, 8, 1), 0, 1);
        });
        says(24, "NO", () -> {
            BeamPieces x = of(8, 0, 4);
            each(NO, at -> x.unit(at, 0, 0), LOW, -1, 9, HIGH);
            each(NO, place -> x.unit(0, place, 0), LOW, -1, 9, HIGH);
            each(NO, part -> x.unit(0, 0, part), LOW, -1, 2, HIGH);
            x.drop(4);
            due(x.unit(0, 0, 0), NO);
        });
    }

    private static void bears() {
        says(25, "UNIT at a PLACE: REACTION of the k-th SUPPORT", () -> {
            BeamPieces x = of(8, 0, 4, 8);
            fraction(x.bears(2, 0, 0), x.bears(2, 0, 1), 13, 32);
            fraction(x.bears(2, 1, 0), x.bears(2, 1, 1), 11, 16);
            fraction(x.bears(2, 2, 0), x.bears(2, 2, 1), -3, 32);
            fraction(x.bears(0, 0, 0), x.bears(0, 0, 1), 1, 1);
            fraction(x.bears(8, 2, 0), x.bears(8, 2, 1), 1, 1);
        });
        says(25, "NO", () -> {
            BeamPieces x = of(8, 0, 4);
            each(NO, at -> x.bears(at, 0, 0), LOW, -1, 9, HIGH);
            each(NO, k -> x.bears(0, k, 0), LOW, -1, 2, HIGH);
            each(NO, part -> x.bears(0, 0, part), LOW, -1, 2, HIGH);
            x.drop(4);
            due(x.bears(0, 0, 0), NO);
        });
    }

    private static void best() {
        says(26, "BEST for the k-th SUPPORT: the PLACE", () -> {
            BeamPieces x = of(8, 0, 8);
            x.point(6, 5);
            due(x.best(0), 6);
            due(x.best(1), 6);
            due(x.supportOf(0, 0), 0);
            due(x.supportOf(1, 0), 8);
            // right beside the next one, right behind the one ahead
            BeamPieces y = of(8, 0, 3, 5);
            y.point(4, 9);
            due(y.best(1), 4);
            BeamPieces z = of(8, 0, 3, 5);
            z.point(1, 9);
            due(z.best(1), 1);
        });
        says(26, "BAD", () -> {
            each(BAD, of(8, 0, 8)::best, LOW, -1, 2, 4, HIGH);
            each(BAD, of(8, 0, 3, 6, 8)::best, LOW, -1, 4, HIGH);
        });
        says(26, "STATE", () -> due(of(8, 3).best(0), STATE));
    }

    private static void hinged() {
        says(27, "A HINGE put on the k-th SUPPORT, in thought: SPAN then", () -> {
            BeamPieces x = of(10, 0, 5, 10);
            x.spread(0, 10, 1);
            fraction(x.hinged(1, 0), x.hinged(1, 1), 25, 8);
            x.heavier(0, -1);
            fraction(x.hinged(1, 0), x.hinged(1, 1), 25, 8);
            x.heavier(0, 0);
            fraction(x.hinged(1, 0), x.hinged(1, 1), 0, 1);
            BeamPieces y = of(9, 0, 3, 6, 9);
            y.spread(0, 9, 8);
            // -9 over the other one: q l l / 10 with both, q l l / 8 with one
            fraction(y.hinged(1, 0), y.hinged(1, 1), 9, 1);
            fraction(y.hinged(2, 0), y.hinged(2, 1), 9, 1);
            y.hinge(3, 1);
            fraction(y.hinged(2, 0), y.hinged(2, 1), 9, 1);
        });
        says(27, "NO", () -> {
            BeamPieces x = of(8, 0, 4, 8);
            each(NO, part -> x.hinged(1, part), LOW, -1, 2, HIGH);
            each(NO, k -> x.hinged(k, 0), LOW, -1, 3, HIGH);
            x.drop(0);
            x.drop(8);
            due(x.hinged(0, 0), NO);
            due(x.hinged(1, 0), NO);
        });
        says(27, "also it is no inner one", () -> {
            each(NO, k -> of(8, 0, 8).hinged(k, 0), 0, 1);
            each(NO, k -> of(8, 0, 4, 8).hinged(k, 0), 0, 2);
            each(NO, k -> of(8, 0, 4, 6, 8).hinged(k, 0), 0, 3);
        });
        says(27, "or has one", () -> {
            BeamPieces x = of(8, 0, 4, 6, 8);
            x.hinge(4, 1);
            due(x.hinged(1, 0), NO);
            due(x.hinged(1, 1), NO);
            due(x.hinged(2, 1), 1);
            x.hinge(4, 0);
            due(x.hinged(1, 1), 1);
        });
    }
}
