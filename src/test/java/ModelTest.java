import java.util.Random;

/** Runs of calls that a seed picks: the class and the model must answer alike, call by call. */
public final class ModelTest {
    private static final int CALLS = 500;
    private static int wrong;

    private final Random random;
    private final BeamPieces real = new BeamPieces();
    private final Model model = new Model();
    private final StringBuilder told = new StringBuilder();

    private ModelTest(long seed) {
        random = new Random(seed);
    }

    public static void main(String[] args) {
        int runs = args.length > 0 ? Integer.parseInt(args[0]) : 120;
        long first = args.length > 1 ? Long.parseLong(args[1]) : 1;
        for (long seed = first; seed < first + runs && wrong < 5; seed++) {
            new ModelTest(seed).run(seed);
        }
        wrong += everyFrame();
        System.out.println(wrong == 0 ? "the class answers as the model does" : wrong + " runs went wrong");
        if (wrong != 0) {
            System.exit(1);
        }
    }

    private void run(long seed) {
        for (int i = 0; i < CALLS; i++) {
            if (!call()) {
                wrong++;
                System.out.println("seed " + seed + ": " + told);
                return;
            }
        }
    }

    private boolean same(String call, long got, long due) {
        told.append(call).append(" = ").append(got).append('\n');
        if (got != due) {
            told.append("due is ").append(due).append('\n');
        }
        return got == due;
    }

    private int pick(int from, int to) {
        int odd = random.nextInt(60);
        if (odd == 0) {
            return random.nextBoolean() ? Integer.MIN_VALUE : Integer.MAX_VALUE;
        }
        if (odd < 4) {
            return random.nextBoolean() ? from - 1 : to + 1;
        }
        return from + random.nextInt(to - from + 1);
    }

    private boolean call() {
        int which = random.nextInt(100);
        return which < 36 ? change() : which < 84 ? ask() : which < 90 ? text() : row();
    }

    private boolean change() {
        int p = pick(0, 10);
        int v = pick(-9, 9);
        int t = pick(0, 10);
        int k = pick(0, 5);
        switch (random.nextInt(24)) {
            case 0: return random.nextInt(4) > 0 || same("beam " + t, real.beam(t), model.beam(t));
            case 1: case 2: case 3: case 4: case 5: return same("support " + p, real.support(p), model.support(p));
            case 6: case 7: return same("drop " + p, real.drop(p), model.drop(p));
            case 8: case 9: case 10:
                int is = pick(0, 1);
                return same("hinge " + p + " " + is, real.hinge(p, is), model.hinge(p, is));
            case 11: case 12: return same("point " + p + " " + v, real.point(p, v), model.point(p, v));
            case 13: case 14: case 15:
                return same("spread " + p + " " + t + " " + v, real.spread(p, t, v), model.spread(p, t, v));
            case 16: return same("heavier " + k + " " + v, real.heavier(k, v), model.heavier(k, v));
            case 17: return same("lift " + k, real.lift(k), model.lift(k));
            case 18: case 19:
                int weight = pick(1, 9);
                return same("axle " + p + " " + weight, real.axle(p, weight), model.axle(p, weight));
            case 20: return same("unhitch", real.unhitch(), model.unhitch());
            case 21: return same("undo", real.undo(), model.undo());
            case 22: return same("image", real.image(), model.image());
            default: return random.nextInt(3) > 0 || same("back", real.back(), model.back());
        }
    }

    private boolean ask() {
        int p = pick(0, 10);
        int k = pick(0, 3);
        int part = pick(0, 1);
        int what = pick(0, 3);
        switch (random.nextInt(16)) {
            case 0: return same("loadOf " + k + " " + what, real.loadOf(k, what), model.loadOf(k, what));
            case 1: return same("supportOf " + k + " " + part, real.supportOf(k, part), model.supportOf(k, part));
            case 2: return same("count " + p, real.count(p), model.count(p));
            case 3: return same("reaction " + k + " " + part, real.reaction(k, part), model.reaction(k, part));
            case 4: return same("shear " + p + " " + part, real.shear(p, part), model.shear(p, part));
            case 5:
                int b = pick(1, 100);
                int a = pick(0, b > 0 && b < 200 ? 10 * b : 1000);
                return same("moment " + a + " " + b + " " + part, real.moment(a, b, part), model.moment(a, b, part));
            case 6: return same("sag " + p + " " + part, real.sag(p, part), model.sag(p, part));
            case 7: return same("greatest " + part + " " + what, real.greatest(part, what), model.greatest(part, what));
            case 8: return same("lowest", real.lowest(), model.lowest());
            case 9:
                int most = pick(0, random.nextBoolean() ? 200 : 9999);
                return same("times " + most, real.times(most), model.times(most));
            case 10: return same("rolls " + p + " " + what, real.rolls(p, what), model.rolls(p, what));
            case 11: return same("presses " + k + " " + what, real.presses(k, what), model.presses(k, what));
            case 12:
                int at = pick(0, 10);
                return same("unit " + at + " " + p + " " + part, real.unit(at, p, part), model.unit(at, p, part));
            case 13: return same("bears " + p + " " + k + " " + part, real.bears(p, k, part), model.bears(p, k, part));
            case 14: return same("best " + k, real.best(k), model.best(k));
            default: return same("hinged " + k + " " + part, real.hinged(k, part), model.hinged(k, part));
        }
    }

    private boolean text() {
        int which = random.nextInt(5);
        if (which == 0) {
            return same("prints", real.prints(), model.prints()) && samePaper();
        }
        if (which == 1) {
            int letter = pick(1, 127);
            return same("feed " + letter, real.feed(letter), model.feed(letter));
        }
        String text = someText();
        for (int i = 0; i < text.length(); i++) {
            if (!same("feed", real.feed(text.charAt(i)), model.feed(text.charAt(i)))) {
                return false;
            }
        }
        return same("reads of " + text, real.reads(), model.reads());
    }

    private boolean samePaper() {
        int size = real.count(6);
        boolean same = true;
        for (int i = -1; i <= size; i++) {
            same &= same("paper " + i, real.paper(i), model.paper(i));
        }
        return same;
    }

    private String someText() {
        StringBuilder s = new StringBuilder();
        int many = 1 + random.nextInt(random.nextInt(4) == 0 ? 14 : 5);
        for (int i = 0; i < many; i++) {
            s.append(i == 0 ? "" : ";").append(someStatement());
        }
        if (random.nextInt(3) == 0) {
            spoil(s);
        }
        return s.toString();
    }

    private String someStatement() {
        String p = " " + random.nextInt(random.nextInt(8) == 0 ? 100 : 7);
        String v = (random.nextInt(3) == 0 ? " -" : " ") + random.nextInt(random.nextInt(12) == 0 ? 100 : 10);
        switch (random.nextInt(9)) {
            case 0: return "beam " + (6 + random.nextInt(5));
            case 1: case 2: case 3: return "support" + p;
            case 4: return "hinge" + p;
            case 5: return "point" + p + v;
            case 6: case 7: return "spread" + p + " " + (random.nextInt(3) == 0 ? "05" : "06") + v;
            default: return "axle" + p + " " + (1 + random.nextInt(9));
        }
    }

    private void spoil(StringBuilder s) {
        int at = random.nextInt(s.length() + 1);
        String signs = "abemnpst; -0123456789:X";
        char sign = signs.charAt(random.nextInt(signs.length()));
        switch (random.nextInt(4)) {
            case 0: s.insert(at, sign); break;
            case 1: s.setLength(at); break;
            case 2: if (at < s.length()) { s.setCharAt(at, sign); } break;
            default: if (at < s.length()) { s.deleteCharAt(at); } break;
        }
    }

    private boolean row() {
        int list = pick(0, 2);
        int i = pick(0, 23);
        int p = pick(0, 6);
        switch (random.nextInt(6)) {
            case 0:
                int n = pick(0, 24);
                return random.nextInt(2) == 0 || same("list " + list + " " + n, real.list(list, n), model.list(list, n));
            case 1: return same("get " + list + " " + i, real.get(list, i), model.get(list, i));
            case 2:
                long v = random.nextInt(3) == 0 ? random.nextLong() : random.nextInt(3);
                return random.nextInt(3) > 0
                    || same("set " + list + " " + i + " " + v, real.set(list, i, v), model.set(list, i, v));
            case 3: return same("judge " + list + " " + p, real.judge(list, p), model.judge(list, p));
            default:
                boolean same = same("into " + list + " " + p, real.into(list, p), model.into(list, p));
                return same && same("judge " + list + " " + p, real.judge(list, p), model.judge(list, p));
        }
    }

    /** All supports and hinges that beams of each length can have, with the heaviest loads among others. */
    private static int everyFrame() {
        Random random = new Random(7);
        int bad = 0;
        for (int length = 2; length <= 10; length++) {
            for (int bits = 0; bits < 1 << length + 1; bits++) {
                int supports = Integer.bitCount(bits);
                for (int hinges = 0; supports >= 2 && supports <= 4 && hinges < 1 << supports - 2; hinges++) {
                    // five are enough to see what is wrong
                    bad += bad >= 5 || oneFrame(length, bits, hinges, random) ? 0 : 1;
                }
            }
        }
        return bad;
    }

    private static boolean oneFrame(int length, int bits, int hinges, Random random) {
        ModelTest test = new ModelTest(bits);
        boolean same = test.supportsOf(length, bits, hinges)
            & test.loadsOf(length, random) & test.axlesOf(random) & test.answersOf(length, random);
        if (!same) {
            System.out.println(test.told);
        }
        return same;
    }

    private boolean supportsOf(int length, int bits, int hinges) {
        boolean same = same("beam " + length, real.beam(length), model.beam(length));
        int number = 0;
        for (int p = 0; p <= length; p++) {
            if ((bits >> p & 1) == 1) {
                same &= same("support " + p, real.support(p), model.support(p));
                int is = number > 0 ? hinges >> number - 1 & 1 : 0;
                same &= same("hinge " + p + " " + is, real.hinge(p, is), model.hinge(p, is));
                number++;
            }
        }
        return same;
    }

    private boolean loadsOf(int length, Random random) {
        boolean same = true;
        int kind = random.nextInt(3);
        for (int i = 0; i < 6; i++) {
            int v = kind == 0 ? (i < 5 ? 9 : 8) : random.nextInt(19) - 9;
            if (kind == 2 && random.nextBoolean()) {
                int p = random.nextInt(length + 1);
                same &= same("point " + p + " " + v, real.point(p, v), model.point(p, v));
            } else {
                int from = kind == 0 ? 0 : random.nextInt(length);
                int to = kind == 0 ? length : from + 1 + random.nextInt(length - from);
                same &= same("spread " + from + " " + to + " " + v, real.spread(from, to, v), model.spread(from, to, v));
            }
        }
        return same;
    }

    private boolean axlesOf(Random random) {
        boolean same = true;
        for (int i = random.nextInt(4); i > 0; i--) {
            int behind = random.nextInt(10);
            int weight = 1 + random.nextInt(9);
            same &= same("axle " + behind + " " + weight, real.axle(behind, weight), model.axle(behind, weight));
        }
        return same;
    }

    private boolean answersOf(int length, Random random) {
        boolean same = true;
        for (int what = 0; what < 4; what++) {
            same &= same("greatest 0 " + what, real.greatest(0, what), model.greatest(0, what));
            same &= same("greatest 1 " + what, real.greatest(1, what), model.greatest(1, what));
            same &= same("reaction " + what, real.reaction(what, 0), model.reaction(what, 0));
            same &= same("hinged " + what, real.hinged(what, 0), model.hinged(what, 0));
        }
        int k = random.nextInt(4);
        same &= same("best " + k, real.best(k), model.best(k));
        int turn = random.nextInt(3);
        same &= same("presses " + k + " " + turn, real.presses(k, turn), model.presses(k, turn));
        same &= same("rolls " + k + " " + turn, real.rolls(k, turn), model.rolls(k, turn));
        for (int p = 0; p <= length; p++) {
            same &= same("sag " + p, real.sag(p, 0), model.sag(p, 0));
            same &= same("sag below " + p, real.sag(p, 1), model.sag(p, 1));
            same &= same("shear " + p, real.shear(p, 0), model.shear(p, 0));
            same &= same("moment " + p, real.moment(p * 97, 97, 0), model.moment(p * 97, 97, 0));
            same &= same("moment near " + p, real.moment(p * 96 + 5, 97, 1), model.moment(p * 96 + 5, 97, 1));
        }
        return same & same("lowest", real.lowest(), model.lowest()) & same("prints", real.prints(), model.prints());
    }
}
