import java.io.IOException;
import java.lang.reflect.Method;
import java.lang.reflect.Modifier;
import java.nio.file.Files;
import java.nio.file.Path;
import java.util.regex.Matcher;
import java.util.regex.Pattern;

/** What README.md tells about the use of the class holds: its example's answers, its text of a beam, all its calls. */
public final class ReadmeTest {
    private static final Pattern CALL = Pattern.compile("(?m)^x\\.(\\w+)\\(([^)]*)\\);\\s*// (-?\\d+)");
    private static final Pattern TEXT = Pattern.compile("`(beam [a-z0-9; -]+)`");
    private static int wrong;

    private ReadmeTest() {
    }

    private static void due(String what, long got, long want) {
        if (got != want) {
            wrong++;
            System.out.println("README.md, " + what + ": answered " + got + ", told is " + want);
        }
    }

    public static void main(String[] args) throws IOException, ReflectiveOperationException {
        String readme = Files.readString(Path.of("README.md"));
        example(readme);
        text(readme);
        everyCall(readme);
        System.out.println(wrong == 0 ? "README.md tells what is so" : wrong + " things in README.md are not so");
        if (wrong != 0) {
            System.exit(1);
        }
    }

    private static void example(String readme) throws ReflectiveOperationException {
        BeamPieces x = new BeamPieces();
        Matcher call = CALL.matcher(readme);
        int calls = 0;
        while (call.find()) {
            due(call.group(), answer(x, call.group(1), call.group(2)), Long.parseLong(call.group(3)));
            calls++;
        }
        long lines = readme.lines().filter(line -> line.startsWith("x.")).count();
        due("lines of the example that tell an answer", calls, lines);
        due("no example", calls == 0 ? 0 : 1, 1);
    }

    private static long answer(BeamPieces x, String name, String told) throws ReflectiveOperationException {
        String[] numbers = told.isEmpty() ? new String[0] : told.split(", ");
        Object[] values = new Object[numbers.length];
        for (int i = 0; i < numbers.length; i++) {
            values[i] = Integer.parseInt(numbers[i]);
        }
        for (Method method : BeamPieces.class.getMethods()) {
            if (method.getName().equals(name) && method.getParameterCount() == values.length) {
                return ((Number) method.invoke(x, values)).longValue();
            }
        }
        throw new NoSuchMethodException(name);
    }

    private static void text(String readme) {
        Matcher told = TEXT.matcher(readme);
        due("no text of a beam", told.find() ? 1 : 0, 1);
        BeamPieces x = new BeamPieces();
        for (char letter : told.group(1).toCharArray()) {
            x.feed(letter);
        }
        due(told.group(), x.reads(), told.group(1).split(";").length);
        due("the text makes no beam that stands", x.prints() > 0 ? 1 : 0, 1);
    }

    private static void everyCall(String readme) {
        for (Method method : BeamPieces.class.getDeclaredMethods()) {
            if (Modifier.isPublic(method.getModifiers())) {
                due("no word of `" + method.getName() + "`", readme.contains("`" + method.getName() + "`") ? 1 : 0, 1);
            }
        }
    }
}
