/** Texts of a BEAM on THE TAPE, and what is printed on THE PAPER (promises 28 to 31). */
final class TextSentences extends Sentences {
    private TextSentences() {
    }

    static void all() {
        statements();
        numbers();
        words();
        faults();
        refused();
        effects();
        printed();
        feed();
        reads();
        prints();
        paper();
    }

    /** Texts that are none, a ^ ahead of the byte with which no text goes on. */
    private static void wrongAt(String... texts) {
        for (String text : texts) {
            due(read(new BeamPieces(), text.replace("^", "")), -1000 - text.indexOf('^'));
        }
    }

    /** Texts with a ^ ahead of the STATEMENT that is refused, of a beam to 8 with supports at 1 and 2. */
    private static void refusedAt(String... texts) {
        for (String text : texts) {
            due(read(of(8, 1, 2), text.replace("^", "")), -2000 - text.indexOf('^'));
        }
    }

    private static void right(int statements, String... texts) {
        for (String text : texts) {
            due(read(new BeamPieces(), text), statements);
        }
    }

    private static void statements() {
        says(TERMS, "A text of a BEAM: STATEMENTS, one or more, parted by ; :", () -> {
            wrongAt("^", "^;", "beam 6;^", "^;beam 6", "beam 6;^;beam 7", "beam 6^,beam 7", "beam 6^ ;beam 7",
                "beam 6^beam 7", "beam 6^:", "beam 6^\n");
            right(1, "beam 6");
            right(2, "beam 6;beam 7");
            right(3, "beam 6;support 6;support 0");
            // as many as THE TAPE holds, of seven bytes each, and just as many bytes as it holds
            right(17, "beam 2;".repeat(16) + "beam 2");
            right(15, "beam 02;".repeat(14) + "axle 0 1");
            wrongAt("beam 02;".repeat(15) + "^");
        });
        says(TERMS, "a word, and its numbers, a blank ahead of each", () -> {
            wrongAt("beam^", "beam ^", "beam^6", "beam ^ 6", "^ beam 6", "beam^\t6", "point 1^", "point 1 ^",
                "point 1 ^ 2", "point 1^,2", "spread 1 2^", "spread 1 23^", "spread 1 2 ^", "beam 6^ 7",
                "beam 6^ ", "^6 beam", "^Beam 6");
            right(1, "beam 6", "point 1 2", "spread 1 2 3", "axle 1 2");
        });
    }

    private static void numbers() {
        says(TERMS, "(one or two figures;", () -> {
            wrongAt("beam ^x", "beam 10^0", "beam 01^0", "point 1 10^0", "point 12^3 1", "spread 00^0 1 1",
                "axle 1 00^1", "beam 6^x", "beam 6^.", "beam ^/", "beam ^:", "beam 6^/", "beam 6^:");
            right(1, "beam 10", "beam 06", "point 08 09", "spread 00 08 09", "axle 09 01", "axle 0 9");
        });
        says(TERMS, "of v perhaps - ahead):", () -> {
            wrongAt("beam ^-6", "support ^-1", "hinge ^-1", "point ^-1 2", "spread ^-1 2 3", "spread 1 ^-2 3",
                "axle ^-1 2", "axle 1 ^-2", "point 1 -^-2", "point 1 ^+2", "point 1 -^", "point 1 -^ 2",
                "point 1 2^-", "point 1 -12^3", "spread 1 2 -^");
            BeamPieces x = new BeamPieces();
            due(read(x, "point 1 -2;point 1 -09;spread 1 2 -1"), 3);
            each(-2, load -> x.loadOf(load, 2), 0);
            each(-9, load -> x.loadOf(load, 2), 1);
            each(-1, load -> x.loadOf(load, 2), 2);
        });
        says(TERMS, "-0 is 0.", () -> {
            BeamPieces x = new BeamPieces();
            due(read(x, "point 1 -0;spread 1 2 -00"), 2);
            due(x.loadOf(0, 2), 0);
            due(x.loadOf(1, 2), 0);
        });
        says(TERMS, "Texts: 00 and 05 may stand;", () -> {
            BeamPieces x = new BeamPieces();
            due(read(x, "support 00;support 05;spread 00 05 00;axle 00 05"), 4);
            due(x.supportOf(0, 0), 0);
            due(x.supportOf(1, 0), 5);
            due(x.loadOf(0, 1), 5);
            due(x.loadOf(0, 2), 0);
        });
        says(TERMS, "A third figure is the FAULT;", () ->
            wrongAt("beam 12^3", "support 00^0", "hinge 00^5", "point 1 -11^1", "spread 1 23^4 1",
                "axle 99^9 1", "support 0;support 00^5"));
    }

    private static void words() {
        says(TERMS, "beam LENGTH;", () -> {
            BeamPieces x = of(8, 0);
            due(read(x, "beam 3"), 1);
            due(x.count(0), 3);
            due(x.count(1), 0);
        });
        says(TERMS, "support PLACE;", () -> {
            BeamPieces x = of(8, 0);
            due(read(x, "support 3"), 1);
            due(x.supportOf(1, 0), 3);
            due(x.supportOf(1, 1), 0);
        });
        says(TERMS, "hinge PLACE;", () -> {
            BeamPieces x = of(8, 0, 3);
            due(read(x, "hinge 3"), 1);
            due(x.supportOf(0, 1), 0);
            due(x.supportOf(1, 1), 1);
        });
        says(TERMS, "point PLACE v;", () -> {
            BeamPieces x = of(8);
            due(read(x, "point 3 -7"), 1);
            int[] want = {3, 3, -7, 1};
            for (int what = 0; what < 4; what++) {
                due(x.loadOf(0, what), want[what]);
            }
        });
        says(TERMS, "spread PLACE PLACE v;", () -> {
            BeamPieces x = of(8);
            due(read(x, "spread 3 5 -7"), 1);
            int[] want = {3, 5, -7, 0};
            for (int what = 0; what < 4; what++) {
                due(x.loadOf(0, what), want[what]);
            }
        });
        says(TERMS, "axle BEHIND WEIGHT.", () -> {
            BeamPieces x = of(8, 0, 8);
            due(read(x, "axle 3 7"), 1);
            due(x.count(3), 1);
            due(x.presses(0, 0), 7);
            due(x.presses(0, 2), 3);
        });
        says(TERMS, "hinge in a text is hinge(.., 1), and again is not refused.", () -> {
            BeamPieces x = of(8, 0, 3);
            due(read(x, "hinge 3;hinge 3"), 2);
            due(x.supportOf(1, 1), 1);
            due(read(x, "hinge 3"), 1);
            due(x.supportOf(1, 1), 1);
        });
        says(TERMS, "They come one by one, as by the calls.", () -> {
            BeamPieces x = of(8, 0, 6);
            x.point(1, 1);
            x.axle(1, 1);
            due(read(x, "support 4;hinge 4;support 2;point 8 2;axle 2 2"), 5);
            int[] places = {0, 2, 4, 6};
            for (int k = 0; k < 4; k++) {
                due(x.supportOf(k, 0), places[k]);
                due(x.supportOf(k, 1), places[k] == 4 ? 1 : 0);
            }
            due(x.loadOf(0, 2), 1);
            due(x.loadOf(1, 2), 2);
            due(x.count(3), 2);
            // what comes later may need what came ahead of it
            due(read(x, "beam 9;support 9;hinge 9"), 3);
            due(x.supportOf(0, 0), 9);
            due(x.supportOf(0, 1), 1);
        });
        says(TERMS, "beam() in a text: all told ahead is gone.", () -> {
            BeamPieces x = of(8, 0, 6);
            x.axle(1, 1);
            due(read(x, "support 3;point 1 1;spread 1 2 3;axle 1 2;beam 4;support 1"), 6);
            due(x.count(0), 4);
            due(x.count(1), 1);
            due(x.supportOf(0, 0), 1);
            each(0, x::count, 2, 3, 7);
            // places told ahead are looked at by the LENGTH that was
            due(read(x, "support 5;beam 8"), -2000);
        });
    }

    private static void faults() {
        says(TERMS, "FAULT: -1000 less the place of the first byte with which no text goes on", () ->
            wrongAt("beam ^x", "beam 6^x", "beam 6;beam ^x", "beam 6;^x", "beam 6;^ beam 7", "point 1 2;point 1 -^x",
                "beam 6^:support 1", "support 12^ ", "support 3;^hing 3", "point 2^;3", "spread 1 2 -3^ ",
                // a refused STATEMENT ahead of it does not count then
                "beam 99;^x", "beam 1;beam 6;^;"));
        says(TERMS, "(the length, if it ends too early;", () -> {
            wrongAt("^", "beam^", "beam ^", "point 1^", "point 1 ^", "point 1 -^", "spread 1 2^",
                "beam 6;^", "beam 6;support^", "beam 6;support ^", "beam 99;hinge^");
            // THE TAPE is full of each of these
            String most = "beam 02;".repeat(13);
            wrongAt(most + "axle 0 1;support^", most + "support 1;hinge ^", most + "beam 2;point 1 -^",
                most + "support 3;axle 1^", most + "beam 10;beam 10;^");
            // what an earlier, longer text left there does not count
            BeamPieces x = new BeamPieces();
            for (String early : new String[] {"point 1", "point 1 ", "point 1 -", "beam", "beam "}) {
                due(read(x, "point 1 -2;beam 6"), 2);
                due(read(x, early), -1000 - early.length());
            }
        });
        String ofWords = "of a word that is none where it begins, a word being as many letters a .. z as stand there);";
        says(TERMS, ofWords, () ->
            wrongAt("^suport 3", "^supports 3", "^sup", "^b", "^beamsupport 3", "beam 6;^suport 3", "beam 6;^s",
                "beam 6;^;", "beam^A", "^beaM 6", "^BEAM 6", "beam^`6", "beam^{6", "^be am 6", "^-1", "^7",
                "^pointa 1 2", "^zbeam 6", "^beamz 6", "^abeam 6", "^beama 6"));
        says(TERMS, "behind a word that needs one a blank lacks where it should be;", () ->
            wrongAt("beam^6", "support^3", "hinge^;", "point^-1 2", "spread^A", "axle^", "beam 6;support^;"));
    }

    private static void refused() {
        says(TERMS, "else -2000 less the place where the first STATEMENT begins that is refused.", () -> {
            refusedAt("^beam 1", "^beam 11", "^beam 00", "^beam 99", "^support 9", "^support 1", "^hinge 3",
                "^point 9 1", "^point 1 10", "^point 1 -10", "^spread 2 2 1", "^spread 3 2 1", "^spread 0 9 1",
                "^spread 0 1 10", "^spread 0 1 -99", "^axle 10 1", "^axle 1 0", "^axle 1 10");
            refusedAt("support 3;^support 3;support 9", "hinge 1;support 3;^hinge 4", "support 3;support 4;^support 5",
                "beam 4;support 0;^support 5", "beam 4;^hinge 1", "axle 0 1;axle 0 1;axle 0 1;^axle 0 1",
                "point 0 1;".repeat(6) + "^spread 0 1 1;point 0 1");
        });
        says(TERMS, "With a FAULT none comes.", () -> {
            BeamPieces x = of(8, 1, 2);
            String ahead = "hinge 1;support 3;point 1 1;axle 1 1;";
            for (String text : new String[] {ahead + "x", ahead + "support 3", ahead, "beam 4;beam 11"}) {
                dueSo(read(x, text) <= -1000, "there is no FAULT");
                due(x.count(0), 8);
                due(x.count(1), 2);
                due(x.supportOf(0, 1), 0);
                each(0, x::count, 2, 3);
            }
        });
    }

    private static void effects() {
        says(TERMS, "a FAULT or a STATEMENT that is refused leaves THE CHANGES as they were,", () -> {
            BeamPieces x = of(8, 1, 2);
            x.point(3, 4);
            due(read(x, "beam 6;x"), -1007);
            due(x.count(4), 3);
            due(read(x, "beam 6;support 7"), -2007);
            due(x.count(4), 3);
            due(x.undo(), 2);
            due(x.count(2), 0);
            due(x.undo(), 1);
            due(x.count(1), 1);
        });
        says(TERMS, "a right text leaves none, as beam() and back() do.", () -> {
            BeamPieces x = of(8, 1, 2);
            due(read(x, "support 3"), 1);
            due(x.count(4), 0);
            due(x.undo(), NOT);
            x.image();
            x.point(1, 1);
            due(x.count(4), 1);
            x.back();
            due(x.count(4), 0);
            x.point(1, 1);
            x.beam(8);
            due(x.count(4), 0);
            due(x.undo(), NOT);
        });
        says(TERMS, "THE TAPE holds 0 .. 120 bytes;", () -> {
            BeamPieces x = new BeamPieces();
            due(x.count(5), 0);
            for (int i = 1; i <= 120; i++) {
                due(x.feed(i), i);
            }
            due(x.feed(121), FULL);
            due(x.count(5), 120);
        });
    }

    private static void printed() {
        says(TERMS, "PRINTED: of each PIECE by number its number, :, a blank, M,", () -> {
            printed(of(10, 0, 10), "0: 0;1: 0;2: 0;3: 0;4: 0;5: 0;6: 0;7: 0;8: 0;9: 0;");
            BeamPieces x = of(2, 1, 2);
            x.point(0, 3);
            printed(x, "0: 0-3x;1: -3+3x;");
        });
        says(TERMS, "then V with its sign (+, too), x,", () -> {
            BeamPieces x = of(3, 0, 3);
            x.point(1, 6);
            printed(x, "0: 0+4x;1: 4-2x;2: 2-2x;");
        });
        says(TERMS, "then half of - q with its sign, xx,", () -> {
            BeamPieces x = of(2, 0, 2);
            x.spread(0, 2, 4);
            printed(x, "0: 0+4x-2xx;1: 2-2xx;");
            x.heavier(0, -4);
            printed(x, "0: 0-4x+2xx;1: -2+2xx;");
            x.spread(1, 2, 2);
            // about 2: 2 R = -8 + 1
            printed(x, "0: 0-7/2x+2xx;1: -3/2+1/2x+1xx;");
            // the heaviest there can be, numbers of four figures among them
            BeamPieces y = of(10, 8, 9);
            for (int i = 0; i < 6; i++) {
                y.spread(0, 10, 9);
            }
            printed(y, "0: 0-27xx;1: -27-54x-27xx;2: -108-108x-27xx;3: -243-162x-27xx;4: -432-216x-27xx;"
                + "5: -675-270x-27xx;6: -972-324x-27xx;7: -1323-378x-27xx;8: -1728+1728x-27xx;9: -27+54x-27xx;");
        });
        says(TERMS, "a semicolon;", () -> printed(of(3, 0, 3), "0: 0;1: 0;2: 0;"));
        says(TERMS, "what is 0 is left out, with its x or xx, but M is not;", () -> {
            BeamPieces x = of(4, 0, 4);
            x.point(1, 4);
            x.point(3, 4);
            // no V between, no q at all
            printed(x, "0: 0+4x;1: 4;2: 4;3: 4-4x;");
            BeamPieces y = of(2, 0, 2);
            y.spread(0, 1, 2);
            y.spread(0, 1, -2);
            printed(y, "0: 0;1: 0;");
        });
        says(TERMS, "fractions as above, /, below (not / 1).", () -> {
            BeamPieces x = of(3, 0, 3);
            x.point(1, -1);
            x.spread(1, 2, -3);
            printed(x, "0: 0-13/6x;1: -13/6-7/6x+3/2xx;2: -11/6+11/6x;");
        });
        says(TERMS, "PRINTED: an M of 0 stands as 0;", () -> printed(of(2, 0, 1), "0: 0;1: 0;"));
        says(TERMS, "a 1 stands ahead of x and xx;", () -> {
            BeamPieces x = of(2, 0, 2);
            x.point(1, 2);
            printed(x, "0: 0+1x;1: 1-1x;");
            BeamPieces y = of(2, 0, 2);
            y.spread(0, 2, -2);
            printed(y, "0: 0-2x+1xx;1: -1+1xx;");
            y.heavier(0, 2);
            printed(y, "0: 0+2x-1xx;1: 1-1xx;");
        });
        says(TERMS, "a semicolon is behind each piece, the last one too.", () -> {
            BeamPieces x = of(2, 0, 2);
            due(x.prints(), 10);
            due(x.paper(4), ';');
            due(x.paper(9), ';');
            due(x.paper(10), NOT);
        });
        says(TERMS, "THE PAPER what was printed last (nothing at first).", () -> {
            BeamPieces x = of(2, 0, 2);
            due(x.count(6), 0);
            due(x.paper(0), NOT);
            x.spread(0, 2, -3);
            due(x.prints(), 28);
            x.lift(0);
            due(x.count(6), 28);
            due(x.prints(), 10);
            due(x.count(6), 10);
            each(NOT, x::paper, 10, 27);
        });
    }

    private static void feed() {
        says(28, "A byte (1 .. 127) comes behind THE TAPE's", () -> {
            BeamPieces x = new BeamPieces();
            due(read(x, "beam 2"), 1);
            due(x.count(0), 2);
            due(x.feed(1), 1);
            due(x.feed(127), 2);
            due(x.reads(), -1000);
        });
        says(28, "how many it has", () -> {
            BeamPieces x = new BeamPieces();
            each(1, x::feed, 'b');
            each(2, x::feed, 'b');
            x.reads();
            each(1, x::feed, 'b');
        });
        says(28, "BAD", () -> {
            BeamPieces x = new BeamPieces();
            each(BAD, x::feed, LOW, -1, 0, 128, 256 + 'b', HIGH);
            due(x.count(5), 0);
        });
        says(28, "FULL", () -> {
            BeamPieces x = new BeamPieces();
            feed(x, "beam 02;".repeat(14) + "beam 3 ");
            due(x.feed(';'), 120);
            each(FULL, x::feed, 1, 'b', 127);
            due(x.count(5), 120);
            due(x.reads(), -1118);
            due(x.feed('b'), 1);
        });
    }

    private static void reads() {
        says(29, "THE TAPE is a text of a BEAM: how many STATEMENTS", () -> {
            BeamPieces x = new BeamPieces();
            for (int many = 1; many <= 5; many++) {
                due(read(x, "beam 4" + ";beam 5".repeat(many - 1)), many);
            }
        });
        says(29, "the FAULT", () -> {
            BeamPieces x = new BeamPieces();
            due(x.reads(), -1000);
            due(read(x, "beam 6;beam x"), -1012);
            due(read(x, "beam 6;beam 1"), -2007);
            due(x.count(0), 8);
        });
    }

    private static void prints() {
        says(30, "THE PAPER becomes MOMENTS PRINTED", () -> {
            BeamPieces x = of(8, 0, 4, 8);
            x.spread(0, 8, 2);
            printed(x, "0: 0+3x-1xx;1: 2+1x-1xx;2: 2-1x-1xx;3: 0-3x-1xx;"
                + "4: -4+5x-1xx;5: 0+3x-1xx;6: 2+1x-1xx;7: 2-1x-1xx;");
        });
        says(30, "how many bytes", () -> {
            due(of(2, 0, 2).prints(), 10);
            due(of(10, 0, 2).prints(), 50);
        });
        says(30, "STATE", () -> {
            due(of(2).prints(), STATE);
            BeamPieces x = of(2, 0, 2);
            x.prints();
            x.drop(0);
            due(x.prints(), STATE);
            due(x.count(6), 10);
            due(x.paper(9), ';');
        });
    }

    private static void paper() {
        BeamPieces x = of(2, 0, 2);
        x.point(1, 1);
        x.prints();
        says(31, "Byte i of THE PAPER", () -> {
            String want = "0: 0+1/2x;1: 1/2-1/2x;";
            for (int i = 0; i < want.length(); i++) {
                due(x.paper(i), want.charAt(i));
            }
        });
        says(31, "BAD: below 0", () -> {
            each(BAD, x::paper, -1, LOW);
            due(new BeamPieces().paper(-1), BAD);
        });
        says(31, "NOT: it has not as many", () -> {
            each(NOT, x::paper, 22, 23, 999, 1000, HIGH);
            each(NOT, new BeamPieces()::paper, 0, 1, HIGH);
        });
    }
}
