import java.io.IOException;
import java.lang.reflect.Method;
import java.nio.file.Files;
import java.nio.file.Path;
import java.util.HashMap;
import java.util.Map;

/**
 * The tests at bounds quote the document: each quote stands in it, under "Terms" or under its promise's heading, each
 * promise is quoted, and no sentence of either is left out.
 */
public final class QuotesTest {
    private static final int PROMISES = 43;
    private static final Class<?>[] TESTS = {BoundsTownTest.class, BoundsLawTest.class, BoundsWorkTest.class,
        BoundsBookTest.class, BoundsToldTest.class, BoundsAskedTest.class, BoundsYearsTest.class, BoundsCallsTest.class};

    private static final Map<String, String> PARTS = new HashMap<>();
    private static final Map<String, boolean[]> QUOTED = new HashMap<>();

    public static void main(String[] args) throws IOException {
        readParts(Files.readString(Path.of("../shared/DOC.md")));
        Check.is("promises of the document", PARTS.size(), PROMISES + 2);
        for (Class<?> test : TESTS) {
            for (Method method : test.getDeclaredMethods()) {
                Says says = method.getAnnotation(Says.class);
                if (says != null) {
                    look(test.getSimpleName() + "." + method.getName(), says);
                }
            }
        }
        for (Map.Entry<String, String> part : PARTS.entrySet()) {
            if (!part.getKey().equals("What it is")) {
                Check.same("not quoted of " + part.getKey(), left(part.getValue(), QUOTED.get(part.getKey())), "");
            }
        }
        Check.end("QuotesTest");
    }

    private static String even(String text) {
        return text.replaceAll("\\s+", " ");
    }

    /** The words of each heading, without code and the marks of what stands apart. */
    private static void readParts(String text) {
        for (String part : text.split("(?m)^## ")) {
            int end = part.indexOf('\n');
            String heading = part.substring(0, Math.max(0, end)).trim();
            String words = part.substring(Math.max(0, end)).replaceAll("(?s)```java.*?```", "").replace("```text", "").replace("```", "")
                    .replaceAll("(?m)^`[^`]*`:", "");
            if (heading.equals("Terms") || heading.equals("What it is")) {
                PARTS.put(heading, even(words));
            } else if (heading.startsWith("Promise ")) {
                PARTS.put(heading.substring(0, heading.indexOf(':')), even(words));
            }
        }
        for (Map.Entry<String, String> part : PARTS.entrySet()) {
            QUOTED.put(part.getKey(), new boolean[part.getValue().length()]);
        }
    }

    private static void look(String test, Says says) {
        for (String quote : says.value()) {
            boolean found = mark("Promise " + says.promise(), quote) | mark("Terms", quote) | mark("What it is", quote);
            Check.is(test + " quotes: " + quote, found ? 1 : 0, 1);
        }
    }

    private static boolean mark(String heading, String quote) {
        String words = PARTS.getOrDefault(heading, "");
        int at = words.indexOf(even(quote));
        for (int i = 0; at >= 0 && i < even(quote).length(); i++) {
            QUOTED.get(heading)[at + i] = true;
        }
        return at >= 0;
    }

    /** What is left when all quotes, blanks and signs between them are gone. */
    private static String left(String words, boolean[] quoted) {
        StringBuilder text = new StringBuilder();
        for (int i = 0; i < words.length(); i++) {
            text.append(quoted[i] ? '|' : words.charAt(i));
        }
        return text.toString().replaceAll("==== \\d\\.", "").replaceAll("[|\\s.,;:]+", " ").trim();
    }
}
