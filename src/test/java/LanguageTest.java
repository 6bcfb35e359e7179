import java.io.IOException;
import java.lang.management.ManagementFactory;
import java.lang.reflect.Constructor;
import java.lang.reflect.Field;
import java.lang.reflect.Member;
import java.lang.reflect.Method;
import java.lang.reflect.Modifier;
import java.nio.file.Files;
import java.nio.file.Path;
import java.util.ArrayList;
import java.util.Arrays;
import java.util.List;
import java.util.Set;
import java.util.TreeSet;
import java.util.regex.Matcher;
import java.util.regex.Pattern;

/** The face, and those of LANGUAGE.md's rules that can be seen from the classes, the source or the memory. */
public final class LanguageTest {
    private static final String SOURCE = "src/main/java/BeamPieces.java";
    private static final String[] FACE = {
        "int axle(int,int)", "int back()", "int beam(int)", "int best(int)", "int count(int)", "int drop(int)",
        "int feed(int)", "int heavier(int,int)", "int hinge(int,int)", "int image()", "int into(int,int)",
        "int judge(int,int)", "int lift(int)", "int list(int,int)", "int loadOf(int,int)", "int lowest()",
        "int paper(int)", "int point(int,int)", "int prints()", "int reads()", "int set(int,int,long)",
        "int spread(int,int,int)", "int support(int)", "int supportOf(int,int)", "int times(int)", "int undo()",
        "int unhitch()", "long bears(int,int,int)", "long get(int,int)", "long greatest(int,int)",
        "long hinged(int,int)", "long moment(int,int,int)", "long presses(int,int)", "long reaction(int,int)",
        "long rolls(int,int)", "long sag(int,int)", "long shear(int,int)", "long unit(int,int,int)"};
    private static final String[] FORBIDDEN = {"\\bthrow\\b", "\\bthrows\\b", "\\btry\\b", "\\bcatch\\b",
        "\\bsynchronized\\b", "\\bassert\\b", "->", "::", "\\w+Exact\\b", "\\bfloat\\b", "\\bdouble\\b",
        "\\bprotected\\b", "\\bnative\\b", "\\bvolatile\\b", "\\bpackage\\b", "\\bSystem\\.(?!arraycopy)",
        "\\bimport (?!java\\.util\\.Arrays;)", "\\bArrays\\.(?!(?:fill|copyOf|copyOfRange)\\b)", "\\bwhile \\(true\\)"};
    private static int wrong;

    private static void due(boolean holds, String what) {
        if (!holds) {
            wrong++;
            System.out.println(what);
        }
    }

    public static void main(String[] args) throws IOException {
        face();
        inside();
        source();
        room();
        System.out.println(wrong == 0 ? "face, language and room are as told" : wrong + " rules are not kept");
        if (wrong != 0) {
            System.exit(1);
        }
    }

    private static void face() {
        due(Modifier.isPublic(BeamPieces.class.getModifiers()), "the class is not public");
        due(Modifier.isFinal(BeamPieces.class.getModifiers()), "the class is not final");
        Set<String> seen = new TreeSet<>();
        Set<String> names = new TreeSet<>();
        for (Method m : BeamPieces.class.getDeclaredMethods()) {
            if (Modifier.isPublic(m.getModifiers())) {
                String types = Arrays.stream(m.getParameterTypes()).map(Class::getName).reduce((a, b) -> a + "," + b).orElse("");
                seen.add(m.getReturnType() + " " + m.getName() + "(" + types + ")");
                names.add(m.getName());
            }
        }
        due(seen.equals(new TreeSet<>(Arrays.asList(FACE))), "the public methods are " + seen);
        List<Member> others = new ArrayList<>(Arrays.asList(BeamPieces.class.getDeclaredMethods()));
        others.addAll(Arrays.asList(BeamPieces.class.getDeclaredFields()));
        for (Member m : others) {
            boolean open = !Modifier.isPrivate(m.getModifiers());
            due(!open || Modifier.isPublic(m.getModifiers()), m + " is neither public nor private");
            due(!open || m instanceof Method || List.of("BAD", "NOT", "FULL", "STATE", "NO").contains(m.getName()),
                m + " is not of the face");
        }
        for (Class<?> inner : BeamPieces.class.getDeclaredClasses()) {
            for (Method m : inner.getDeclaredMethods()) {
                due(!names.contains(m.getName()), m + " bears a public method's name");
            }
        }
        Constructor<?>[] made = BeamPieces.class.getDeclaredConstructors();
        due(made.length == 1 && made[0].getParameterCount() == 0 && Modifier.isPublic(made[0].getModifiers()),
            "there is another constructor");
    }

    private static void inside() {
        List<Class<?>> all = new ArrayList<>(Arrays.asList(BeamPieces.class.getDeclaredClasses()));
        due(all.size() <= 12, "there are too many classes");
        for (Class<?> inner : all) {
            due(Modifier.isStatic(inner.getModifiers()), inner + " is not static");
            due(!Modifier.isPublic(inner.getModifiers()), inner + " is public");
        }
        all.add(BeamPieces.class);
        for (Class<?> c : all) {
            int own = 0;
            for (Field f : c.getDeclaredFields()) {
                due(!Modifier.isStatic(f.getModifiers()) || Modifier.isFinal(f.getModifiers()), f + " is not final");
                own += Modifier.isStatic(f.getModifiers()) ? 0 : 1;
            }
            due(own <= 20, c + " has " + own + " fields");
            for (Method m : c.getDeclaredMethods()) {
                due(m.getParameterCount() <= 7, m + " has too many parameters");
            }
        }
    }

    private static void source() throws IOException {
        String text = Files.readString(Path.of(SOURCE));
        due(text.chars().allMatch(c -> c < 128), "the source has signs above 127");
        String code = text.replaceAll("(?s)/\\*.*?\\*/", "").replaceAll("//[^\n]*", "");
        for (String pattern : FORBIDDEN) {
            Matcher m = Pattern.compile(pattern).matcher(code);
            due(!m.find(), "the source has " + pattern);
        }
        int from = -1;
        String[] lines = text.split("\n");
        for (int i = 0; i < lines.length; i++) {
            if (lines[i].matches("^(    |        )[\\w<>\\[\\] ]+\\([^;]*\\) \\{$")) {
                from = i;
            } else if (from >= 0 && lines[i].matches("^(    |        )\\}$")) {
                due(i - from < 60, "the method at line " + (from + 1) + " is too long");
                from = -1;
            }
            due(lines[i].length() <= 120, "line " + (i + 1) + " is too long");
        }
    }

    /** 512 of the dearest calls make next to nothing, and an object itself is small. */
    private static void room() {
        com.sun.management.ThreadMXBean memory = (com.sun.management.ThreadMXBean) ManagementFactory.getThreadMXBean();
        long thread = Thread.currentThread().getId();
        // the first object brings the classes themselves along
        dearest(new BeamPieces(), 1);
        long atFirst = memory.getThreadAllocatedBytes(thread);
        BeamPieces x = new BeamPieces();
        long made = memory.getThreadAllocatedBytes(thread) - atFirst;
        due(made < 20_000, "an object takes " + made + " bytes");
        long ahead = memory.getThreadAllocatedBytes(thread);
        dearest(x, 51);
        long used = memory.getThreadAllocatedBytes(thread) - ahead;
        due(used < 50_000, "the calls make " + used + " bytes");
    }

    private static void dearest(BeamPieces x, int rounds) {
        x.beam(10);
        x.support(0);
        x.support(3);
        x.support(7);
        x.support(10);
        x.spread(0, 10, 7);
        x.list(0, 24);
        x.axle(0, 3);
        for (int i = 0; i < rounds; i++) {
            x.best(1);
            x.rolls(5, 0);
            x.presses(1, 0);
            x.prints();
            x.into(0, 0);
            x.judge(0, 0);
            x.greatest(0, 0);
            x.hinged(1, 0);
            x.feed('b');
            x.reads();
        }
    }
}
