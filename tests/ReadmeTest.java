import java.io.IOException;
import java.lang.reflect.Method;
import java.lang.reflect.Modifier;
import java.nio.file.Files;
import java.nio.file.Path;
import java.util.ArrayList;
import java.util.List;
import java.util.regex.Matcher;
import java.util.regex.Pattern;
import java.util.stream.Stream;

/**
 * What README.md shows of the use of the class: its Java is put into one class, compiled and run, and each call must
 * answer what stands behind it. Each method of the face is shown, and each file of tests is named.
 */
final class ReadmeTest {
    private static final String HELPERS = String.join("\n",
        "    static int wrong = 0;",
        "    static void due(String call, java.util.function.IntSupplier shown, String want) {",
        "        String got;",
        "        try {",
        "            got = String.valueOf(shown.getAsInt());",
        "        } catch (RuntimeException e) {",
        "            got = e.getClass().getSimpleName();",
        "        }",
        "        if (!got.equals(want)) {",
        "            wrong++;",
        "            System.out.println(\"README.md: \" + call + \" answered \" + got + \", it says \" + want);",
        "        }",
        "    }");
    /** A call, and behind it its answer or the exception that it throws, with words that say what it is. */
    private static final Pattern SHOWN = Pattern.compile("(\\w[\\w.]*\\(.*\\)); *// (-?\\d+|[A-Za-z]+Exception): .+");
    private static int wrong = 0;

    private ReadmeTest() {
    }

    public static void main(String[] args) throws IOException, InterruptedException {
        String readme = Files.readString(Path.of("README.md"));
        List<String> blocks = javaBlocks(readme);
        List<String> members = new ArrayList<>();
        List<String> statements = new ArrayList<>();
        for (String block : blocks) {
            if (block.startsWith("static ")) {
                members.add(block);
            } else {
                statements.addAll(block.lines().toList());
            }
        }
        List<String> body = new ArrayList<>();
        int shown = 0;
        for (String line : statements) {
            shown += addStatement(line.trim(), body) ? 1 : 0;
        }
        facesShown(String.join("\n", statements));
        testsNamed(readme);
        if (wrong == 0) {
            answers(members, body);
        }
        System.out.println("ReadmeTest: " + shown + " answers in README.md, " + wrong + " things not as due");
        if (wrong != 0 || shown == 0) {
            System.exit(1);
        }
    }

    private static void fail(String what) {
        wrong++;
        System.out.println(what);
    }

    private static List<String> javaBlocks(String readme) {
        List<String> blocks = new ArrayList<>();
        Matcher matcher = Pattern.compile("```java\\n(.*?)```", Pattern.DOTALL).matcher(readme);
        while (matcher.find()) {
            blocks.add(matcher.group(1));
        }
        return blocks;
    }

    /** Whether the line shows an answer; only the making of the object may stand without one. */
    private static boolean addStatement(String line, List<String> body) {
        Matcher matcher = SHOWN.matcher(line);
        if (matcher.matches()) {
            String call = matcher.group(1);
            body.add("due(" + quoted(call) + ", () -> " + call + ", " + quoted(matcher.group(2)) + ");");
            return true;
        }
        if (line.equals("FrameHeirs heirs = new FrameHeirs();")) {
            body.add(line);
        } else if (!line.isEmpty()) {
            fail("README.md: no answer is shown: " + line);
        }
        return false;
    }

    private static String quoted(String text) {
        return "\"" + text.replace("\\", "\\\\").replace("\"", "\\\"") + "\"";
    }

    private static void facesShown(String statements) {
        for (Method method : FrameHeirs.class.getDeclaredMethods()) {
            if (Modifier.isPublic(method.getModifiers()) && !statements.contains("heirs." + method.getName() + "(")) {
                fail("README.md doesn't show " + method.getName());
            }
        }
    }

    private static void testsNamed(String readme) throws IOException {
        try (Stream<Path> files = Files.walk(Path.of("tests"))) {
            for (Path file : files.filter(Files::isRegularFile).sorted().toList()) {
                if (!readme.contains(file.getFileName().toString())) {
                    fail("README.md doesn't name " + file);
                }
            }
        }
        Matcher matcher = Pattern.compile("`(tests/[\\w/]+\\.java)`").matcher(readme);
        while (matcher.find()) {
            if (!Files.isRegularFile(Path.of(matcher.group(1)))) {
                fail("README.md names " + matcher.group(1) + ", which isn't there");
            }
        }
    }

    private static void answers(List<String> members, List<String> body) throws IOException, InterruptedException {
        Path place = Files.createTempDirectory("readme");
        Path source = place.resolve("ReadmeUse.java");
        Files.writeString(source, "final class ReadmeUse {\n" + HELPERS + "\n" + String.join("\n", members)
            + "\n    public static void main(String[] args) {\n" + String.join("\n", body)
            + "\n        System.exit(wrong == 0 ? 0 : 1);\n    }\n}\n");
        String classes = System.getProperty("java.class.path");
        if (!ends("javac", "-Xlint:all", "-Werror", "-cp", classes, "-d", place.toString(), source.toString())) {
            fail("README.md: what it shows can't be compiled");
        } else if (!ends("java", "-cp", classes + System.getProperty("path.separator") + place, "ReadmeUse")) {
            fail("README.md: an answer isn't as it says");
        }
        try (Stream<Path> files = Files.list(place)) {
            for (Path file : files.toList()) {
                Files.delete(file);
            }
        }
        Files.delete(place);
    }

    private static boolean ends(String... command) throws IOException, InterruptedException {
        return new ProcessBuilder(command).inheritIO().start().waitFor() == 0;
    }
}
