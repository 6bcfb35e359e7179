/** What there is: reactions, shear, moment, sag, the greatest of them (promises 15 to 21). */
final class StaticsSentences extends Sentences {
    private StaticsSentences() {
    }

    static void all() {
        stands();
        alongTheBeam();
        overSupports();
        sags();
        peaks();
        reaction();
        shear();
        moment();
        sag();
        greatest();
        lowest();
        times();
    }

    private static void stands() {
        says(TERMS, "With two SUPPORTS or more it STANDS.", () -> {
            BeamPieces x = of(4);
            x.point(1, 4);
            for (int place : new int[] {0, 4}) {
                due(x.reaction(0, 0), NO);
                due(x.lowest(), STATE);
                x.support(place);
            }
            due(x.reaction(0, 0), 3);
            x.support(1);
            due(x.reaction(1, 0), 4);
            x.support(2);
            due(x.reaction(1, 0), 4);
            x.drop(1);
            x.drop(2);
            due(x.reaction(0, 0), 3);
            x.drop(4);
            due(x.reaction(0, 0), NO);
        });
    }

    private static void alongTheBeam() {
        says(TERMS, "Then (REACTIONS: upward forces of SUPPORTS): SHEAR at x: REACTIONS less LOADS, "
            + "of all that is to the left of x; behind a PLACE: of what is at it, too.", () -> {
                BeamPieces x = of(4, 1, 4);
                x.point(0, 2);
                x.point(1, 3);
                x.point(4, 9);
                // about 4: 3 R = 4 * 2 + 3 * 3
                fraction(x.reaction(0, 0), x.reaction(0, 1), 17, 3);
                fraction(x.shear(0, 0), x.shear(0, 1), -2, 1);
                fraction(x.shear(1, 0), x.shear(1, 1), 2, 3);
                fraction(x.shear(3, 0), x.shear(3, 1), 2, 3);
                fraction(x.shear(4, 0), x.shear(4, 1), 0, 1);
            });
        says(TERMS, "SHEAR at LENGTH is 0.", () -> {
            for (int last = 3; last <= 5; last++) {
                BeamPieces x = of(5, 1, last);
                x.point(5, 9);
                x.spread(0, 5, 7);
                fraction(x.shear(5, 0), x.shear(5, 1), 0, 1);
            }
        });
        says(TERMS, "MOMENT at x: REACTIONS times how far each is to the left of x, less LOADS likewise "
            + "(of SPREAD ones each part).", () -> {
                BeamPieces x = of(4, 0, 4);
                x.spread(0, 2, 2);
                fraction(x.moment(1, 1, 0), x.moment(1, 1, 1), 2, 1);
                fraction(x.moment(3, 2, 0), x.moment(3, 2, 1), 9, 4);
                fraction(x.moment(2, 1, 0), x.moment(2, 1, 1), 2, 1);
                fraction(x.moment(3, 1, 0), x.moment(3, 1, 1), 1, 1);
                x.point(2, 1);
                fraction(x.moment(3, 1, 0), x.moment(3, 1, 1), 3, 2);
            });
        says(TERMS, "On a PIECE from k, u (0 .. 1) further on: MOMENT is M plus V u less half of q u u: M MOMENT at k, "
            + "V SHEAR behind k, q all SPREAD loads there.", () -> {
                BeamPieces x = of(4, 0, 4);
                x.spread(0, 4, 1);
                x.spread(1, 2, 2);
                x.spread(1, 2, -1);
                // about 4: 4 R = 4 * 2 + 1 * 5/2
                fraction(x.moment(1, 1, 0), x.moment(1, 1, 1), 17, 8);
                fraction(x.shear(1, 0), x.shear(1, 1), 13, 8);
                fraction(x.moment(3, 2, 0), x.moment(3, 2, 1), 43, 16);
                fraction(x.moment(2, 1, 0), x.moment(2, 1, 1), 11, 4);
            });
    }

    private static void overSupports() {
        says(TERMS, "MOMENTS over SUPPORTS: "
            + "over the first and the last one as the LOADS beyond them make them;", () -> {
            BeamPieces x = of(10, 3, 7);
            x.spread(0, 3, 2);
            x.point(10, 4);
            for (int i = 0; i < 2; i++) {
                due(x.moment(3, 1, 0), -9);
                due(x.moment(7, 1, 0), -12);
                due(x.moment(0, 1, 0), 0);
                due(x.moment(10, 1, 0), 0);
                x.support(5);
            }
        });
        says(TERMS, "over a HINGE 0;", () -> {
            BeamPieces x = of(9, 0, 3, 6, 9);
            x.spread(0, 9, 8);
            x.hinge(3, 1);
            due(x.moment(3, 1, 0), 0);
            // its neighbour by threes: 12 M = -2 * 8 * 27 / 4
            due(x.moment(6, 1, 0), -9);
            x.hinge(6, 1);
            due(x.moment(6, 1, 0), 0);
            x.hinge(3, 0);
            due(x.moment(3, 1, 0), -9);
        });
        says(TERMS, "else by threes: for neighbours a, b, c (l from a to b, m from b to c): l times MOMENT over a, "
            + "twice l and m together times that over b, and m times that over c make the minus of "
            + "(6 S over l, plus 6 T over m):", () -> {
                BeamPieces x = of(10, 1, 4, 8);
                x.point(0, 2);
                x.point(2, 9);
                x.point(6, 4);
                x.point(10, 3);
                // 3 * -2 + 14 M + 4 * -6 = -(24 + 24)
                fraction(x.moment(4, 1, 0), x.moment(4, 1, 1), -9, 7);
                BeamPieces y = of(9, 0, 3, 6, 9);
                y.spread(0, 9, 1);
                // 12 M + 3 M = -2 * 27 / 4, over both
                fraction(y.moment(3, 1, 0), y.moment(3, 1, 1), -9, 10);
                fraction(y.moment(6, 1, 0), y.moment(6, 1, 1), -9, 10);
                BeamPieces z = of(10, 0, 2, 5, 9);
                z.spread(2, 5, 4);
                z.point(7, 2);
                z.point(10, 3);
                // 10 M + 3 N = -27, 3 M + 14 N + 4 * -3 = -(27 + 12)
                fraction(z.moment(2, 1, 0), z.moment(2, 1, 1), -297, 131);
                fraction(z.moment(5, 1, 0), z.moment(5, 1, 1), -189, 131);
            });
        says(TERMS, "S: the sum (integral) of s times MOMENT over l, T of (m less t) times MOMENT over m, "
            + "s, t being how far one is from a, from b, and these MOMENTS such as if each of both were "
            + "a beam of its own on just two SUPPORTS", () -> {
                BeamPieces x = of(7, 0, 3, 7);
                x.spread(0, 3, 4);
                x.spread(3, 7, 2);
                // 14 M = -(4 * 27 / 4 + 2 * 64 / 4)
                fraction(x.moment(3, 1, 0), x.moment(3, 1, 1), -59, 14);
                BeamPieces y = of(8, 0, 4, 8);
                y.spread(0, 2, 4);
                fraction(y.moment(4, 1, 0), y.moment(4, 1, 1), -7, 4);
                y.spread(6, 8, 4);
                fraction(y.moment(4, 1, 0), y.moment(4, 1, 1), -7, 2);
                y.heavier(0, 0);
                y.heavier(1, 0);
                y.spread(2, 4, 4);
                fraction(y.moment(4, 1, 0), y.moment(4, 1, 1), -9, 4);
                y.heavier(2, 0);
                y.point(5, 8);
                // 16 M = -8 * 3 * (16 - 9) / 4
                fraction(y.moment(4, 1, 0), y.moment(4, 1, 1), -21, 8);
            });
        says(TERMS, "(LOADS at SUPPORTS do nothing to them).", () -> {
            BeamPieces x = of(9, 0, 4, 6, 9);
            int[] places = {0, 4, 6, 9};
            for (int k = 0; k < 4; k++) {
                x.point(places[k], 9 - k);
            }
            for (int k = 0; k < 4; k++) {
                due(x.moment(places[k], 1, 0), 0);
                due(x.reaction(k, 0), 9 - k);
            }
        });
        says(TERMS, "REACTIONS are by MOMENTS and LOADS.", () -> {
            BeamPieces x = of(8, 0, 3, 8);
            x.point(1, 9);
            x.point(5, 5);
            // 16 M = -(24 + 48); 3 R - 9 * 2 = M; 5 R - 5 * 2 = M
            fraction(x.moment(3, 1, 0), x.moment(3, 1, 1), -9, 2);
            fraction(x.reaction(0, 0), x.reaction(0, 1), 9, 2);
            fraction(x.reaction(1, 0), x.reaction(1, 1), 42, 5);
            fraction(x.reaction(2, 0), x.reaction(2, 1), 11, 10);
            BeamPieces y = of(9, 0, 3, 6, 9);
            y.spread(0, 9, 1);
            // 4/10 and 11/10 of what is on one span
            each(6, k -> y.reaction(k, 0), 0, 3);
            each(5, k -> y.reaction(k, 1), 0, 3);
            each(33, k -> y.reaction(k, 0), 1, 2);
            each(10, k -> y.reaction(k, 1), 1, 2);
        });
    }

    private static void sags() {
        says(TERMS, "SAG (downward) at x: between two neighbouring SUPPORTS 0 at both, "
            + "its second derivative being the minus of MOMENT;", () -> {
                BeamPieces x = of(8, 0, 4, 8);
                x.point(2, 8);
                // M = -3 over the middle: P l l l / 48 + M l l / 16, then M l l / 16
                fraction(x.sag(2, 0), x.sag(2, 1), 23, 3);
                fraction(x.sag(6, 0), x.sag(6, 1), -3, 1);
                each(0, place -> x.sag(place, 0), 0, 4, 8);
                each(1, place -> x.sag(place, 1), 0, 4, 8);
                x.hinge(4, 1);
                fraction(x.sag(2, 0), x.sag(2, 1), 32, 3);
                each(0, place -> x.sag(place, 0), 0, 4, 5, 6, 7, 8);
                // 0 also where it has sagged ahead of a SUPPORT's coming
                BeamPieces y = of(10, 3, 10);
                y.point(0, 1);
                dueSo(y.sag(0, 0) > 0, "nothing sags");
                y.support(0);
                each(0, place -> y.sag(place, 0), 0, 1, 2, 3, 4, 9, 10);
            });
        says(TERMS, "beyond the first and the last likewise, going on as steep as it is there.", () -> {
            BeamPieces x = of(8, 2, 6);
            x.point(4, 1);
            each(-2, place -> x.sag(place, 0), 0, 8);
            each(-1, place -> x.sag(place, 0), 1, 7);
            BeamPieces y = of(6, 2, 6);
            y.spread(0, 2, 3);
            // q c c c (4 l + 3 c) / 24
            fraction(y.sag(0, 0), y.sag(0, 1), 22, 1);
            BeamPieces z = of(6, 0, 4);
            z.point(6, 3);
            // P c c (l + c) / 3
            fraction(z.sag(6, 0), z.sag(6, 1), 24, 1);
        });
    }

    private static void peak(BeamPieces x, int which, long... want) {
        for (int what = 0; what < 4; what++) {
            due(x.greatest(which, what), want[what]);
        }
    }

    private static void peaks() {
        says(TERMS, "GREATEST: the greatest MOMENT at all x 0 .. LENGTH,", () -> {
            BeamPieces x = of(5, 0, 5);
            x.spread(0, 5, 1);
            peak(x, 0, 25, 8, 5, 2);
            BeamPieces y = of(8, 0, 4, 8);
            y.spread(0, 8, 1);
            peak(y, 0, 9, 8, 3, 2);
            // R is 47/8: had the first PIECE gone on as it begins, there would be more
            BeamPieces z = of(4, 0, 4);
            z.spread(0, 1, 1);
            z.spread(1, 2, 8);
            peak(z, 0, 7025, 1024, 103, 64);
            z.heavier(0, -1);
            z.heavier(1, -8);
            peak(z, 1, -7025, 1024, 103, 64);
        });
        says(TERMS, "and the least x where it is that;", () -> {
            BeamPieces x = of(10, 0, 10);
            peak(x, 0, 0, 1, 0, 1);
            x.point(2, 3);
            x.point(8, 3);
            peak(x, 0, 6, 1, 2, 1);
            x.point(5, -6);
            // 2 R = 0: nothing before 2, up again behind 5
            peak(x, 0, 0, 1, 0, 1);
            peak(x, 1, -9, 1, 5, 1);
        });
        says(TERMS, "LEAST likewise;", () -> {
            BeamPieces x = of(5, 0, 5);
            peak(x, 1, 0, 1, 0, 1);
            x.spread(0, 5, -1);
            peak(x, 1, -25, 8, 5, 2);
            BeamPieces y = of(10, 2, 8);
            y.point(0, 2);
            y.point(10, 2);
            peak(y, 1, -4, 1, 2, 1);
        });
        says(TERMS, "greatest(): also at HINGES, also at 0 and LENGTH.", () -> {
            BeamPieces x = of(8, 0, 4, 8);
            x.hinge(4, 1);
            x.spread(0, 8, 1);
            peak(x, 0, 2, 1, 2, 1);
            peak(x, 1, 0, 1, 0, 1);
            x.heavier(0, -1);
            peak(x, 0, 0, 1, 0, 1);
            peak(x, 1, -2, 1, 2, 1);
            BeamPieces y = of(4, 1, 3);
            y.spread(0, 4, 2);
            // 0 at both ends and in the middle, below 0 all else
            peak(y, 0, 0, 1, 0, 1);
            y.point(2, -1);
            peak(y, 0, 0, 1, 0, 1);
            peak(y, 1, -1, 1, 1, 1);
        });
        says(TERMS, "SPAN: the greater of GREATEST and the minus of LEAST.", () -> {
            BeamPieces x = of(10, 2, 6, 10);
            x.point(0, 3);
            x.point(4, 9);
            x.hinge(6, 1);
            // -6 over 2, 9 - 3 at 4
            peak(x, 0, 6, 1, 4, 1);
            peak(x, 1, -6, 1, 2, 1);
            due(x.times(5), 0);
            due(x.times(6), 1);
            x.heavier(1, 8);
            due(x.times(5), 0);
            due(x.times(6), 1);
            x.heavier(0, 2);
            // 8 - 2 at 4, -4 over 2
            due(x.times(5), 0);
            due(x.times(6), 1);
        });
        says(TERMS, "LOWEST: the PLACE (0 .. LENGTH) of most SAG, of several the least.", () -> {
            BeamPieces x = of(6, 2, 4);
            due(x.lowest(), 0);
            x.point(0, 1);
            x.point(6, 1);
            due(x.lowest(), 0);
            x.heavier(1, 2);
            due(x.lowest(), 6);
            BeamPieces z = of(8, 0, 2, 8);
            z.point(1, 9);
            due(z.lowest(), 1);
            BeamPieces y = of(5, 0, 5);
            y.spread(0, 5, 1);
            due(y.lowest(), 2);
            y.heavier(0, -1);
            due(y.lowest(), 0);
        });
    }

    private static void reaction() {
        says(15, "REACTION of the k-th SUPPORT", () -> {
            BeamPieces x = of(10, 6, 2);
            x.point(0, 3);
            x.spread(5, 10, 2);
            // about 6: 4 R = 3 * 6 - 10 * 3/2
            fraction(x.reaction(0, 0), x.reaction(0, 1), 3, 4);
            fraction(x.reaction(1, 0), x.reaction(1, 1), 49, 4);
        });
        says(15, "NO", () -> {
            BeamPieces x = of(4, 0, 4);
            each(NO, k -> x.reaction(k, 0), LOW, -1, 2, 4, HIGH);
            each(NO, part -> x.reaction(0, part), LOW, -1, 2, HIGH);
            x.drop(0);
            due(x.reaction(0, 0), NO);
            due(of(4).reaction(0, 0), NO);
        });
    }

    private static void shear() {
        says(16, "SHEAR behind a PLACE", () -> {
            BeamPieces x = of(4, 0, 4);
            x.point(1, 4);
            due(x.shear(0, 0), 3);
            due(x.shear(1, 0), -1);
            x.spread(2, 3, 1);
            fraction(x.shear(2, 0), x.shear(2, 1), -5, 8);
            fraction(x.shear(3, 0), x.shear(3, 1), -13, 8);
        });
        says(16, "NO", () -> {
            BeamPieces x = of(4, 0, 4);
            each(NO, place -> x.shear(place, 0), LOW, -1, 5, HIGH);
            each(NO, part -> x.shear(0, part), LOW, -1, 2, HIGH);
            x.drop(0);
            due(x.shear(0, 0), NO);
        });
    }

    private static void moment() {
        says(17, "MOMENT at a by b (b 1 .. 100, a 0 .. b times LENGTH)", () -> {
            BeamPieces x = of(4, 0, 4);
            x.spread(0, 4, 3);
            // 6 x - 3/2 x x
            fraction(x.moment(0, 100, 0), x.moment(0, 100, 1), 0, 1);
            fraction(x.moment(1, 100, 0), x.moment(1, 100, 1), 1197, 20000);
            fraction(x.moment(1, 3, 0), x.moment(1, 3, 1), 11, 6);
            fraction(x.moment(2, 1, 0), x.moment(2, 1, 1), 6, 1);
            fraction(x.moment(200, 100, 0), x.moment(200, 100, 1), 6, 1);
            fraction(x.moment(399, 100, 0), x.moment(399, 100, 1), 1197, 20000);
            fraction(x.moment(400, 100, 0), x.moment(400, 100, 1), 0, 1);
            fraction(x.moment(4, 1, 0), x.moment(4, 1, 1), 0, 1);
            // not in lowest terms as it is asked
            fraction(x.moment(2, 6, 0), x.moment(2, 6, 1), 11, 6);
        });
        says(17, "NO", () -> {
            BeamPieces x = of(4, 0, 4);
            each(NO, a -> x.moment(a, 1, 0), LOW, -1, 5, HIGH);
            each(NO, a -> x.moment(a, 100, 0), LOW, -1, 401, HIGH);
            each(NO, b -> x.moment(0, b, 0), LOW, -1, 0, 101, HIGH);
            // b times LENGTH would come round to 0 and to something above 0
            each(NO, b -> x.moment(0, b, 0), 1 << 30, 1 << 29, (1 << 30) + 1);
            each(NO, both -> x.moment(both, both, 0), LOW, HIGH);
            each(NO, part -> x.moment(0, 1, part), LOW, -1, 2, HIGH);
            x.drop(0);
            due(x.moment(0, 1, 0), NO);
        });
    }

    private static void sag() {
        says(18, "SAG at a PLACE", () -> {
            BeamPieces x = of(4, 0, 4);
            x.point(2, 3);
            fraction(x.sag(0, 0), x.sag(0, 1), 0, 1);
            fraction(x.sag(1, 0), x.sag(1, 1), 11, 4);
            fraction(x.sag(2, 0), x.sag(2, 1), 4, 1);
            fraction(x.sag(3, 0), x.sag(3, 1), 11, 4);
            fraction(x.sag(4, 0), x.sag(4, 1), 0, 1);
            BeamPieces y = of(4, 0, 4);
            y.spread(0, 4, 3);
            // 5 q l l l l / 384
            fraction(y.sag(2, 0), y.sag(2, 1), 10, 1);
        });
        says(18, "NO", () -> {
            BeamPieces x = of(4, 0, 4);
            each(NO, place -> x.sag(place, 0), LOW, -1, 5, HIGH);
            each(NO, part -> x.sag(0, part), LOW, -1, 2, HIGH);
            x.drop(0);
            due(x.sag(0, 0), NO);
        });
    }

    private static void greatest() {
        BeamPieces x = of(6, 1, 6);
        x.spread(1, 6, 2);
        x.point(0, 1);
        // -1 over 1, shear behind it 26/5: 26/10 further on -1 + 169/25
        says(19, "GREATEST (which 0)", () -> due(x.greatest(0, 0), 144));
        says(19, "LEAST (1)", () -> due(x.greatest(1, 0), -1));
        says(19, "how much above, below the line (what 0, 1)", () -> {
            fraction(x.greatest(0, 0), x.greatest(0, 1), 144, 25);
            fraction(x.greatest(1, 0), x.greatest(1, 1), -1, 1);
        });
        says(19, "where (2, 3)", () -> {
            fraction(x.greatest(0, 2), x.greatest(0, 3), 18, 5);
            fraction(x.greatest(1, 2), x.greatest(1, 3), 1, 1);
        });
        says(19, "NO", () -> {
            each(NO, which -> x.greatest(which, 0), LOW, -1, 2, HIGH);
            each(NO, what -> x.greatest(0, what), LOW, -1, 4, HIGH);
            due(of(6, 1).greatest(0, 0), NO);
        });
    }

    private static void lowest() {
        says(20, "LOWEST", () -> {
            BeamPieces x = of(7, 0, 5);
            x.point(3, 4);
            due(x.lowest(), 3);
            x.point(7, 9);
            due(x.lowest(), 7);
        });
        says(20, "STATE", () -> {
            due(of(7).lowest(), STATE);
            due(of(7, 3).lowest(), STATE);
        });
    }

    private static void times() {
        says(21, "TIMES by a told number (0 .. 9999)", () -> {
            BeamPieces x = of(4, 0, 4);
            x.point(2, -3);
            each(0, x::times, 0, 1, 2);
            each(1, x::times, 3, 4, 5);
            due(x.times(6), 2);
            due(x.times(9999), 99);
        });
        says(21, "BAD", () -> {
            BeamPieces x = of(4, 0, 4);
            x.point(2, 3);
            each(BAD, x::times, LOW, -1, 10000, HIGH);
        });
        says(21, "STATE", () -> {
            due(of(4).times(5), STATE);
            due(of(4, 0).times(0), STATE);
        });
        says(21, "NOT: SPAN is 0", () -> {
            BeamPieces x = of(4, 0, 4);
            each(NOT, x::times, 0, 5, 9999);
            // loads at supports alone bend nothing
            x.point(0, 9);
            due(x.times(5), NOT);
            x.point(1, 1);
            due(x.times(0), 0);
        });
        says(TERMS, "TIMES: the greatest f (0 .. 99) such that f times SPAN is no more than a told number.", () -> {
            BeamPieces x = of(5, 0, 5);
            x.spread(0, 5, 1);
            // SPAN is 25/8
            int[] most = {0, 3, 4, 24, 25, 306, 307, 309, 310, 9999};
            int[] f = {0, 0, 1, 7, 8, 97, 98, 98, 99, 99};
            for (int i = 0; i < most.length; i++) {
                due(x.times(most[i]), f[i]);
            }
            BeamPieces y = of(10, 5, 6);
            for (int i = 0; i < 6; i++) {
                y.spread(0, 10, 9);
            }
            // 54 * 25 / 2, over 5
            due(y.times(674), 0);
            due(y.times(675), 1);
            due(y.times(9999), 14);
        });
        says(TERMS, "TIMES: 99, if all fit.", () -> {
            BeamPieces x = of(4, 0, 4);
            x.point(1, 1);
            due(x.times(74), 98);
            due(x.times(75), 99);
            due(x.times(76), 99);
            due(x.times(9999), 99);
        });
    }
}
