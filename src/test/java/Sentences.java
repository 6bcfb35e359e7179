import java.io.IOException;
import java.nio.file.Files;
import java.nio.file.Path;
import java.util.ArrayList;
import java.util.Arrays;
import java.util.List;
import java.util.function.IntToLongFunction;

/**
 * Tests that stand under the document's own words, each under a piece of one promise or of the terms (number 0).
 * The words must stand there so, and no word there may be left without a test.
 */
abstract class Sentences {
    static final int BAD = -1, NOT = -2, FULL = -3, STATE = -6, NOTHING = -11, BEYOND = -13, BELOW = -14;
    static final long NO = Long.MIN_VALUE;
    static final int LOW = Integer.MIN_VALUE, HIGH = Integer.MAX_VALUE;
    static final int TERMS = 0;
    private static final int PROMISES = 39;
    private static final Path DOCUMENT = Path.of("../shared/DOC.md");
    private static final List<List<String>> TESTED = new ArrayList<>();
    private static String title = "";
    private static int row;
    private static int wrong;

    static void says(int number, String words, Runnable test) {
        begin(number, words);
        tested(number).add(words);
        test.run();
        if (row == 0) {
            fault("nothing was looked at");
        }
    }

    private static void begin(int number, String words) {
        title = (number == TERMS ? "terms" : "promise " + number) + ", <" + words + ">";
        row = 0;
    }

    private static List<String> tested(int number) {
        while (TESTED.size() <= number) {
            TESTED.add(new ArrayList<>());
        }
        return TESTED.get(number);
    }

    static void due(long got, long want) {
        row++;
        if (got != want) {
            fault("answered " + got + ", due is " + want);
        }
    }

    static void dueSo(boolean holds, String what) {
        row++;
        if (!holds) {
            fault(what);
        }
    }

    private static void fault(String what) {
        wrong++;
        System.out.println(title + ", row " + row + ": " + what);
    }

    static int wrong() {
        return wrong;
    }

    static void fraction(long above, long below, long wantAbove, long wantBelow) {
        due(above, wantAbove);
        due(below, wantBelow);
    }

    /** The same answer is due with each of these inputs. */
    static void each(long want, IntToLongFunction call, int... inputs) {
        for (int input : inputs) {
            due(call.applyAsLong(input), want);
        }
    }

    static BeamPieces of(int length, int... supports) {
        BeamPieces x = new BeamPieces();
        x.beam(length);
        for (int place : supports) {
            x.support(place);
        }
        return x;
    }

    static void feed(BeamPieces x, String text) {
        for (int i = 0; i < text.length(); i++) {
            x.feed(text.charAt(i));
        }
    }

    static int read(BeamPieces x, String text) {
        feed(x, text);
        return x.reads();
    }

    static void printed(BeamPieces x, String want) {
        due(x.prints(), want.length());
        due(x.count(6), want.length());
        for (int i = 0; i < want.length(); i++) {
            due(x.paper(i), want.charAt(i));
        }
        due(x.paper(want.length()), NOT);
    }

    static void everyWordHasATest() throws IOException {
        if (!Files.exists(DOCUMENT)) {
            System.out.println("no " + DOCUMENT + " is here: its words were not compared");
            return;
        }
        String text = Files.readString(DOCUMENT).replace("```text", " ").replace("```", " ");
        text = text.replaceAll("======== \\d ", " ").replaceAll("\\s+", " ");
        compare(TERMS, between(text, "## Terms ", "Ahead of the calls `beam`"));
        for (int number = 1; number <= PROMISES; number++) {
            String promise = between(text, "## Promise " + number + ": ", " ## ");
            compare(number, promise.substring(promise.indexOf("`: ") + 3));
        }
    }

    private static String between(String text, String ahead, String behind) {
        int from = text.indexOf(ahead) + ahead.length();
        return text.substring(from, text.indexOf(behind, from));
    }

    private static void compare(int number, String text) {
        char[] left = text.toCharArray();
        for (String words : tested(number)) {
            begin(number, words);
            dueSo(text.contains(words), "the document does not say so");
            for (int at = text.indexOf(words); at >= 0; at = text.indexOf(words, at + 1)) {
                Arrays.fill(left, at, at + words.length(), ' ');
            }
        }
        String rest = new String(left);
        begin(number, rest.trim().replaceAll(" {2,}", " .. "));
        dueSo(!rest.matches(".*[A-Za-z0-9].*"), "no test stands under this");
    }
}
