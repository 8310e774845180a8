import java.io.IOException;
import java.nio.file.Files;
import java.nio.file.Path;
import java.util.ArrayList;
import java.util.LinkedHashMap;
import java.util.List;
import java.util.Map;
import java.util.regex.Matcher;
import java.util.regex.Pattern;
import java.util.stream.Stream;

/**
 * The remarks ahead of the tests of the edges: what a remark quotes stands in the document, in the part that it names;
 * each test has one; and no word of the promises and terms is left that no test quotes.
 */
final class RemarksTest {
    private static final Pattern QUOTE = Pattern.compile("(Promise \\d+|Terms \\d|What it is): \"([^\"]*)\"");
    private static int wrong = 0;

    private RemarksTest() {
    }

    public static void main(String[] args) throws IOException {
        Map<String, String> parts = partsOf(Files.readString(Path.of("../shared/DOC.md")));
        Map<String, boolean[]> quoted = new LinkedHashMap<>();
        parts.forEach((name, text) -> quoted.put(name, new boolean[text.length()]));
        int remarks = 0;
        List<Path> files = new ArrayList<>();
        try (Stream<Path> found = Files.list(Path.of("tests"))) {
            found.filter(file -> file.getFileName().toString().matches("EdgesOf.*\\.java")).sorted().forEach(files::add);
        }
        for (Path file : files) {
            remarks += lookAt(file, parts, quoted);
        }
        parts.forEach((name, text) -> tellUnquoted(name, text, quoted.get(name)));
        System.out.println("RemarksTest: " + remarks + " quotes in " + files.size() + " files, " + wrong + " not as due");
        if (wrong != 0 || remarks == 0) {
            System.exit(1);
        }
    }

    private static void fail(String what) {
        wrong++;
        System.out.println(what);
    }

    /** The promises by their numbers without the call's head, the terms by the numbers behind ====, as one line each. */
    private static Map<String, String> partsOf(String document) {
        Map<String, String> parts = new LinkedHashMap<>();
        String plain = document.replace("```text", " ").replace("```", " ").replaceAll("\\s+", " ");
        String about = between(plain, "## What it is", "## The public face");
        parts.put("What it is", about.substring(about.indexOf("==== 1.") + 7).trim());
        String[] terms = between(plain, "## Terms", "## Promise 1:").split("==== \\d\\.");
        for (int i = 0; i < terms.length; i++) {
            parts.put("Terms " + (i + 1), terms[i].trim());
        }
        for (int promise = 1; promise <= 40; promise++) {
            String next = promise == 40 ? "## Not promised" : "## Promise " + (promise + 1) + ":";
            String text = between(plain, "## Promise " + promise + ":", next);
            parts.put("Promise " + promise, text.substring(text.lastIndexOf("`: ") + 3).trim());
        }
        return parts;
    }

    private static String between(String text, String head, String end) {
        int from = text.indexOf(head);
        int to = text.indexOf(end, from + 1);
        if (from < 0 || to < 0) {
            fail("not found: " + head + " .. " + end);
            return "`: ";
        }
        return text.substring(from + head.length(), to);
    }

    private static int lookAt(Path file, Map<String, String> parts, Map<String, boolean[]> quoted) throws IOException {
        StringBuilder remark = new StringBuilder();
        int quotes = 0;
        for (String row : Files.readAllLines(file)) {
            String line = row.trim();
            if (line.startsWith("// ")) {
                remark.append(line.substring(2));
                continue;
            }
            Matcher matcher = QUOTE.matcher(remark);
            int found = 0;
            while (matcher.find()) {
                mark(file, matcher.group(1), matcher.group(2), parts, quoted);
                found++;
            }
            boolean test = line.matches("static void \\w+\\(\\) \\{");
            if (test != found > 0) {
                fail(file + ": " + (test ? "a test without a quote: " + line : "a quote without a test: " + remark));
            }
            quotes += found;
            remark.setLength(0);
        }
        return quotes;
    }

    private static void mark(Path file, String part, String quote, Map<String, String> parts, Map<String, boolean[]> quoted) {
        String text = parts.getOrDefault(part, "");
        int from = text.indexOf(quote);
        if (from < 0 || quote.isEmpty()) {
            fail(file + ": " + part + " doesn't say: " + quote);
            return;
        }
        for (int i = from; i < from + quote.length(); i++) {
            quoted.get(part)[i] = true;
        }
    }

    private static void tellUnquoted(String part, String text, boolean[] quoted) {
        int from = 0;
        while (from < text.length()) {
            if (quoted[from] || !Character.isLetterOrDigit(text.charAt(from))) {
                from++;
                continue;
            }
            int to = from;
            while (to < text.length() && !quoted[to]) {
                to++;
            }
            fail(part + ": no test quotes: " + text.substring(from, to));
            from = to;
        }
    }
}
