import java.math.BigInteger;
import java.util.ArrayList;
import java.util.List;
import java.util.function.IntToLongFunction;
import java.util.function.ToLongFunction;

/** What is answered where a call is refused, and that it changes nothing then. */
final class AnswerSentences extends Sentences {
    private static final int MOST_CALLS = 512, MOST_TO_MAKE = 160;
    private static final int FRESH = 0, STANDING = 1, LYING = 2, CROWDED = 3;
    private static final int[] ANY = {FRESH, STANDING, LYING, CROWDED};

    private AnswerSentences() {
    }

    static void all() {
        order();
        names();
        fractions();
        nothingChanges();
        ownMemory();
    }

    private static void order() {
        says(TERMS, "Answers, of several the first that the call's words name:", () -> {
            BeamPieces x = crowded();
            due(x.support(0), STATE);
            due(x.support(1), FULL);
            due(x.support(5), BAD);
            due(x.drop(5), BAD);
            due(x.hinge(1, 2), BAD);
            due(x.hinge(5, 1), BAD);
            due(x.hinge(1, 1), STATE);
            due(x.point(5, 1), BAD);
            due(x.point(1, 10), BAD);
            due(x.spread(3, 3, 1), BAD);
            due(x.axle(10, 1), BAD);
            due(x.axle(1, 0), BAD);
            due(x.feed(0), BAD);
            due(x.feed(128), BAD);
            BeamPieces y = of(4, 2);
            due(y.times(-1), BAD);
            due(y.times(1), STATE);
            due(y.best(1), BAD);
            due(y.best(0), STATE);
            due(y.list(3, -1), BAD);
            due(y.set(3, -1, 1), BAD);
            due(y.set(1, -1, 1), NOTHING);
            due(y.into(3, -1), BAD);
            due(y.into(1, -1), STATE);
            due(y.judge(3, -1), BAD);
            due(y.judge(1, -1), BAD);
            due(y.judge(1, 0), STATE);
            y.support(4);
            due(y.times(10000), BAD);
            due(y.into(1, -1), NOTHING);
            due(y.judge(1, -1), BAD);
            y.list(1, 3);
            due(y.into(1, -1), BEYOND);
            due(y.paper(-1), BAD);
        });
    }

    private static void names() {
        BeamPieces x = of(4, 0);
        says(TERMS, "BAD (-1) no such number, or it is not as told;", () -> {
            due(BeamPieces.BAD, BAD);
            due(x.lift(0), BAD);
            due(x.beam(1), BAD);
        });
        says(TERMS, "NOTHING (-11) a LIST that holds nothing,", () -> due(x.set(0, 0, 1), NOTHING));
        says(TERMS, "BELOW (-14) a size below 0,", () -> due(x.list(0, -1), BELOW));
        says(TERMS, "BEYOND (-13) no such place;", () -> {
            x.list(1, 1);
            due(x.set(1, 1, 1), BEYOND);
        });
        says(TERMS, "STATE (-6) it does not STAND, or as told;", () -> {
            due(BeamPieces.STATE, STATE);
            due(x.lowest(), STATE);
            due(x.drop(1), STATE);
        });
        says(TERMS, "FULL (-3) as told;", () -> {
            due(BeamPieces.FULL, FULL);
            due(crowded().axle(0, 1), FULL);
        });
        says(TERMS, "NOT (-2) nothing such.", () -> {
            due(BeamPieces.NOT, NOT);
            due(x.back(), NOT);
        });
        says(TERMS, "NO (Long.MIN_VALUE) instead of all of these.", () -> {
            due(BeamPieces.NO, Long.MIN_VALUE);
            due(x.reaction(0, 0), NO);
            due(x.get(3, 0), NO);
            due(x.get(0, 0), NO);
            due(x.get(1, 1), NO);
        });
    }

    private static void lowestTerms(IntToLongFunction call) {
        long above = call.applyAsLong(0);
        long below = call.applyAsLong(1);
        dueSo(below > 0, "what is below the line is not above 0");
        due(BigInteger.valueOf(above).gcd(BigInteger.valueOf(below)).longValue(), 1);
    }

    private static void fractions() {
        says(TERMS, "Fractions in lowest terms: part 0 above, part 1 below the line (above 0);", () -> {
            BeamPieces x = of(10, 1, 4, 6, 9);
            x.spread(0, 10, -6);
            x.point(5, 9);
            x.point(10, 6);
            x.axle(0, 4);
            x.axle(3, 2);
            for (int i = 0; i < 4; i++) {
                int k = i;
                lowestTerms(part -> x.reaction(k, part));
                lowestTerms(part -> x.presses(k, part));
                lowestTerms(part -> x.bears(2, k, part));
                lowestTerms(part -> x.greatest(k / 2, k % 2 * 2 + part));
            }
            for (int i = 0; i <= 10; i++) {
                int place = i;
                lowestTerms(part -> x.shear(place, part));
                lowestTerms(part -> x.moment(place * 6, 6, part));
                lowestTerms(part -> x.sag(place, part));
                lowestTerms(part -> x.rolls(place, part));
                lowestTerms(part -> x.unit(5, place, part));
            }
            lowestTerms(part -> x.hinged(1, part));
            // 0 is 0 over 1, of all parts
            fraction(x.moment(0, 100, 0), x.moment(0, 100, 1), 0, 1);
            fraction(x.sag(4, 0), x.sag(4, 1), 0, 1);
        });
    }

    private static BeamPieces standing() {
        BeamPieces x = of(5, 0, 2);
        x.point(3, 7);
        x.image();
        x.beam(4);
        x.support(1);
        x.support(4);
        x.point(2, -3);
        x.spread(0, 3, 5);
        x.axle(1, 4);
        x.prints();
        x.list(0, 2);
        x.set(0, 1, 6);
        x.list(2, 0);
        feed(x, "beam 1");
        return x;
    }

    private static BeamPieces lying() {
        BeamPieces x = standing();
        x.drop(4);
        return x;
    }

    /** All that can be full, CHANGES too. */
    private static BeamPieces crowded() {
        BeamPieces x = of(4, 0, 2, 3, 4);
        x.prints();
        for (int i = 0; i < 6; i++) {
            x.spread(0, 4, i);
        }
        x.axle(0, 1);
        x.axle(1, 1);
        x.axle(2, 1);
        feed(x, "beam 02;".repeat(14) + "beam 002");
        return x;
    }

    /** All that a call can tell of it; it is another one afterwards. */
    private static List<Long> everything(BeamPieces x) {
        List<Long> all = new ArrayList<>();
        state(x, all);
        for (int list = 0; list < 3; list++) {
            for (int i = 0; i < 3; i++) {
                all.add(x.get(list, i));
            }
            all.add((long) x.set(list, 0, 1));
        }
        int bytes = x.count(6);
        for (int i = 0; i <= bytes; i++) {
            all.add((long) x.paper(i));
        }
        for (int i = 0; i < 11; i++) {
            all.add((long) x.undo());
            for (int what = 1; what < 5; what++) {
                all.add((long) x.count(what));
            }
        }
        all.add((long) x.feed('0'));
        all.add((long) x.reads());
        all.add((long) x.count(0));
        all.add((long) x.back());
        state(x, all);
        return all;
    }

    private static void state(BeamPieces x, List<Long> all) {
        for (int what = 0; what < 8; what++) {
            all.add((long) x.count(what));
        }
        for (int k = 0; k < 4; k++) {
            all.add((long) x.supportOf(k, 0));
            all.add((long) x.supportOf(k, 1));
            all.add(x.presses(k, 0));
        }
        for (int load = 0; load < 6; load++) {
            for (int what = 0; what < 4; what++) {
                all.add((long) x.loadOf(load, what));
            }
        }
    }

    private static BeamPieces made(int which) {
        switch (which) {
            case FRESH: return new BeamPieces();
            case STANDING: return standing();
            case LYING: return lying();
            default: return crowded();
        }
    }

    /** The call is refused in each of these states, and leaves it as a twin is that had no such call. */
    private static void refuses(long want, ToLongFunction<BeamPieces> call, int... states) {
        for (int which : states) {
            BeamPieces x = made(which);
            due(call.applyAsLong(x), want);
            List<Long> is = everything(x);
            dueSo(is.equals(everything(made(which))), "something has changed");
            dueSo(is.size() < MOST_CALLS - MOST_TO_MAKE, "it takes too many calls to tell");
        }
    }

    private static void nothingChanges() {
        says(TERMS, "What is answered so changes nothing", () -> {
            refusedChanges();
            refusedQuestions();
            refusedRows();
        });
        says(TERMS, "but THE TAPE, where it is read: it is empty then.", () -> {
            String[] texts = {"", "beam", "beam 1", "support 9", "beam 6;beam 6;beam 66"};
            for (String text : texts) {
                BeamPieces x = standing();
                x.reads();
                feed(x, text);
                dueSo(x.reads() <= -1000, "it was not refused");
                due(x.count(5), 0);
                BeamPieces y = standing();
                due(y.reads(), -2000);
                dueSo(everything(x).equals(everything(y)), "something has changed");
            }
            BeamPieces z = new BeamPieces();
            due(read(z, "beam 6"), 1);
            due(z.count(5), 0);
            due(z.reads(), -1000);
        });
    }

    private static void refusedChanges() {
        for (int bad : new int[] {LOW, -1, 11, HIGH}) {
            refuses(BAD, x -> x.beam(bad), ANY);
            refuses(BAD, x -> x.support(bad), ANY);
            refuses(BAD, x -> x.drop(bad), ANY);
            refuses(BAD, x -> x.hinge(bad, 1), ANY);
            refuses(BAD, x -> x.hinge(0, bad), ANY);
            refuses(BAD, x -> x.point(bad, 1), ANY);
            refuses(BAD, x -> x.spread(bad, 4, 1), ANY);
            refuses(BAD, x -> x.spread(0, bad, 1), ANY);
            refuses(BAD, x -> x.heavier(bad, 1), ANY);
            refuses(BAD, x -> x.lift(bad), ANY);
            refuses(BAD, x -> x.axle(bad, 1), ANY);
            refuses(BAD, x -> x.axle(0, bad), ANY);
        }
        for (int bad : new int[] {LOW, -10, 10, HIGH}) {
            refuses(BAD, x -> x.point(0, bad), ANY);
            refuses(BAD, x -> x.spread(0, 4, bad), ANY);
            refuses(BAD, x -> x.heavier(0, bad), ANY);
        }
        refuses(STATE, x -> x.support(1), STANDING, LYING);
        refuses(STATE, x -> x.drop(2), FRESH, STANDING, LYING);
        refuses(STATE, x -> x.hinge(2, 1), FRESH, STANDING, LYING);
        refuses(FULL, x -> x.support(1), CROWDED);
        refuses(FULL, x -> x.point(1, 1), CROWDED);
        refuses(FULL, x -> x.spread(1, 2, 1), CROWDED);
        refuses(FULL, x -> x.axle(1, 1), CROWDED);
        refuses(NOT, BeamPieces::undo, FRESH);
        refuses(NOT, BeamPieces::back, FRESH, CROWDED);
    }

    private static void refusedQuestions() {
        for (int bad : new int[] {LOW, -1, 11, HIGH}) {
            refuses(BAD, x -> x.loadOf(bad, 0), ANY);
            refuses(BAD, x -> x.supportOf(bad, 0), ANY);
            refuses(BAD, x -> x.count(bad), ANY);
            refuses(NO, x -> x.reaction(bad, 0), ANY);
            refuses(NO, x -> x.shear(bad, 0), ANY);
            refuses(NO, x -> x.moment(bad, 1, 0), ANY);
            refuses(NO, x -> x.sag(bad, 0), ANY);
            refuses(NO, x -> x.greatest(bad, 0), ANY);
            refuses(NO, x -> x.rolls(bad, 0), ANY);
            refuses(NO, x -> x.presses(bad, 0), ANY);
            refuses(NO, x -> x.unit(bad, 0, 0), ANY);
            refuses(NO, x -> x.bears(bad, 0, 0), ANY);
            refuses(BAD, x -> x.best(bad), ANY);
            refuses(NO, x -> x.hinged(bad, 0), ANY);
        }
        refuses(BAD, x -> x.times(-1), ANY);
        refuses(BAD, x -> x.paper(-1), ANY);
        refuses(NOT, x -> x.paper(900), ANY);
        refuses(STATE, BeamPieces::lowest, FRESH, LYING);
        refuses(STATE, x -> x.times(1), FRESH, LYING);
        refuses(STATE, x -> x.best(0), LYING);
        refuses(STATE, BeamPieces::prints, FRESH, LYING);
        refuses(NO, x -> x.moment(0, 0, 0), ANY);
    }

    private static void refusedRows() {
        refuses(BAD, x -> x.feed(0), ANY);
        refuses(BAD, x -> x.feed(128), ANY);
        refuses(FULL, x -> x.feed('b'), CROWDED);
        for (int bad : new int[] {LOW, -1, 3, HIGH}) {
            refuses(BAD, x -> x.list(bad, 1), ANY);
            refuses(BAD, x -> x.set(bad, 0, 1), ANY);
            refuses(NO, x -> x.get(bad, 0), ANY);
            refuses(BAD, x -> x.into(bad, 0), ANY);
            refuses(BAD, x -> x.judge(bad, 0), ANY);
        }
        refuses(BAD, x -> x.list(0, 25), ANY);
        refuses(BELOW, x -> x.list(0, -1), ANY);
        refuses(NOTHING, x -> x.set(1, 0, 1), ANY);
        refuses(BEYOND, x -> x.set(0, 2, 1), STANDING, LYING);
        refuses(BEYOND, x -> x.set(2, 0, 1), STANDING, LYING);
        refuses(STATE, x -> x.into(0, 0), FRESH, LYING);
        refuses(STATE, x -> x.judge(0, 0), FRESH, LYING);
        refuses(NOTHING, x -> x.into(1, 0), STANDING, CROWDED);
        refuses(NOTHING, x -> x.judge(1, 0), STANDING, CROWDED);
        refuses(BEYOND, x -> x.into(0, -1), STANDING);
        refuses(BAD, x -> x.judge(0, -1), ANY);
    }

    private static void ownMemory() {
        says(TERMS, "All memory is the class's own.", () -> {
            // what one is told does not come into another one
            BeamPieces x = standing();
            BeamPieces y = new BeamPieces();
            y.list(0, 2);
            y.set(0, 0, 9);
            y.point(0, 9);
            feed(y, "axle");
            y.image();
            y.unhitch();
            dueSo(everything(x).equals(everything(standing())), "something has changed");
        });
    }
}
