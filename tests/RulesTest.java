import java.io.IOException;
import java.lang.management.ManagementFactory;
import java.lang.reflect.Constructor;
import java.lang.reflect.Field;
import java.lang.reflect.Method;
import java.lang.reflect.Modifier;
import java.nio.file.Files;
import java.nio.file.Path;
import java.util.ArrayList;
import java.util.List;
import java.util.Set;
import java.util.TreeSet;

/** The rules of LANGUAGE.md that can be looked at from outside, and how much a run of calls makes. */
public final class RulesTest {
    private static int wrong = 0;

    private static final String FACE = "above age aliases answer churn coldest cool count deed fault feed flush free gap gates "
        + "grant heir holds job kept lost map named ratio reach run serve settle shared steps text tick tidy touch tried "
        + "undo waits warmth work";

    private RulesTest() {
    }

    private static void check(boolean holds, String rule) {
        if (!holds) {
            wrong++;
            System.out.println("rule broken: " + rule);
        }
    }

    public static void main(String[] args) throws IOException {
        face();
        source();
        room();
        System.out.println(wrong == 0 ? "RulesTest: the rules hold" : "RulesTest: " + wrong + " rules are broken");
        if (wrong != 0) {
            System.exit(1);
        }
    }

    private static void face() {
        Set<String> open = new TreeSet<>();
        Set<String> closed = new TreeSet<>();
        check(Modifier.isFinal(FrameHeirs.class.getModifiers()), "1: the class is final");
        for (Method method : FrameHeirs.class.getDeclaredMethods()) {
            (Modifier.isPublic(method.getModifiers()) ? open : closed).add(method.getName());
            check(Modifier.isPublic(method.getModifiers()) || Modifier.isPrivate(method.getModifiers()),
                "1: " + method.getName() + " is neither public nor private");
        }
        check(String.join(" ", open).equals(FACE), "1: the face has " + open);
        for (Field field : FrameHeirs.class.getDeclaredFields()) {
            check(Modifier.isPrivate(field.getModifiers()) || field.getName().equals("NONE"), "1: field " + field.getName());
        }
        for (Constructor<?> constructor : FrameHeirs.class.getDeclaredConstructors()) {
            check(constructor.getParameterCount() == 0, "1: another constructor");
        }
        List<Class<?>> inside = new ArrayList<>(List.of(FrameHeirs.class.getDeclaredClasses()));
        check(inside.size() <= 11, "11: classes");
        for (Class<?> one : inside) {
            check(Modifier.isStatic(one.getModifiers()), "1: " + one.getName() + " is not static");
            for (Method method : one.getDeclaredMethods()) {
                closed.add(method.getName());
                check(method.getParameterCount() <= 7, "11: parameters of " + method.getName());
            }
            check(fieldsOf(one) <= 20, "11: fields of " + one.getName());
        }
        check(fieldsOf(FrameHeirs.class) <= 20, "11: fields");
        closed.retainAll(open);
        check(closed.isEmpty(), "1: names of the face inside: " + closed);
    }

    private static int fieldsOf(Class<?> one) {
        int fields = 0;
        for (Field field : one.getDeclaredFields()) {
            fields += Modifier.isStatic(field.getModifiers()) ? 0 : 1;
            check(!Modifier.isStatic(field.getModifiers()) || Modifier.isFinal(field.getModifiers()),
                "5: " + field.getName() + " is not final");
        }
        return fields;
    }

    private static void source() throws IOException {
        List<String> lines = Files.readAllLines(Path.of("src/main/java/FrameHeirs.java"));
        int start = 0;
        for (int i = 0; i < lines.size(); i++) {
            String line = lines.get(i).replaceAll("/\\*\\*.*?\\*/", "");
            for (String word : new String[] {"catch", "finally", "try", "assert", "synchronized", "Object", "Exact",
                "package", "instanceof", "static {"}) {
                check(!line.matches(".*\\b" + java.util.regex.Pattern.quote(word) + "(\\b|$).*"), word + " in line " + (i + 1));
            }
            check(!line.contains("->") && !line.contains("::"), "2: line " + (i + 1));
            check(!line.startsWith("import ") || line.equals("import java.util.Arrays;")
                || line.equals("import java.util.NoSuchElementException;"), "4: " + line);
            if (line.endsWith("{") && (line.matches("    [a-z].*\\(.*") || line.matches("        [a-zA-Z].*\\) (throws .*)?\\{"))) {
                start = i;
            }
            if (line.equals("    }") || line.equals("        }")) {
                check(i - start <= 60 || line.equals("    }"), "11: a method from line " + (start + 1) + " on is long");
            }
            check(line.chars().allMatch(sign -> sign < 128), "4: a sign in line " + (i + 1));
        }
    }

    private static long allocated() {
        return ((com.sun.management.ThreadMXBean) ManagementFactory.getThreadMXBean()).getCurrentThreadAllocatedBytes();
    }

    /** The dearest calls, 512 of them: the worlds of the past and of trials are made once and used again. */
    private static void room() {
        calls();
        long before = allocated();
        calls();
        long bytes = allocated() - before;
        check(bytes < 600_000, "12: a run made " + bytes + " bytes");
    }

    private static void calls() {
        FrameHeirs x = new FrameHeirs();
        x.feed(0x73706163, 0x6520723b, 0x73706163, 0x6520613b, 0x20202020);
        x.text(16);
        for (int i = 0; i < 510; i++) {
            switch (i % 8) {
                case 0: x.map(0, 4 * (i % 16), 1, i % 16, 7); break;
                case 1: x.churn(i, 20); break;
                case 2: x.tried(i % 5); break;
                case 3: x.flush(0, 3, 2, false); break;
                case 4: x.work(3); break;
                case 5: x.cool(0); break;
                case 6: x.undo(); break;
                default: x.settle(); break;
            }
        }
    }
}
