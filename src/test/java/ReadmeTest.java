import java.io.File;
import java.io.IOException;
import java.lang.reflect.Method;
import java.lang.reflect.Modifier;
import java.net.URL;
import java.net.URLClassLoader;
import java.nio.file.Files;
import java.nio.file.Path;
import java.util.ArrayList;
import java.util.List;
import java.util.Set;
import java.util.TreeSet;
import java.util.regex.Matcher;
import java.util.regex.Pattern;
import javax.tools.ToolProvider;

/** README.md: its calls compile and answer as it says; its way of running the tests is the one that .ci/run takes. */
public final class ReadmeTest {
    private static final Pattern SHOWN = Pattern.compile("(.*); // (throws \\w+|true|false|-?\\d+)(?:: .*)?");
    private static final Pattern COMMAND = Pattern.compile("(?m)^[^#\\n]*?\\b(javac? -[^;\\n]*)");

    public static void main(String[] args) throws Exception {
        String readme = Files.readString(Path.of("README.md"));
        answers(blocks(readme, "java"));
        allCalls(readme);
        allTests(readme.substring(readme.indexOf("\n## Tests")));
        commands(blocks(readme, "sh"), Files.readString(Path.of(".ci/run")));
        Check.end("ReadmeTest");
    }

    private static List<String> blocks(String text, String kind) {
        List<String> found = new ArrayList<>();
        Matcher block = Pattern.compile("(?s)```" + kind + "\\n(.*?)```").matcher(text);
        while (block.find()) {
            found.add(block.group(1));
        }
        return found;
    }

    private static void answers(List<String> blocks) throws Exception {
        StringBuilder methods = new StringBuilder();
        StringBuilder calls = new StringBuilder();
        List<String> shown = new ArrayList<>();
        List<String> due = new ArrayList<>();
        for (String block : blocks) {
            if (block.startsWith("static ")) {
                methods.append(block);
            } else {
                readCalls(block, calls, shown, due);
            }
        }
        List<?> got = runCalls(methods, calls);
        Check.is("README.md shows calls", due.isEmpty() ? 0 : 1, 1);
        Check.is("answers", got.size(), due.size());
        for (int i = 0; i < Math.min(due.size(), got.size()); i++) {
            Check.same("README.md's " + shown.get(i), String.valueOf(got.get(i)), due.get(i));
        }
    }

    private static void readCalls(String block, StringBuilder calls, List<String> shown, List<String> due) {
        for (String line : block.split("\n")) {
            Matcher call = SHOWN.matcher(line);
            if (call.matches()) {
                calls.append("try { got.add(String.valueOf(").append(call.group(1)).append(")); }\n");
                calls.append("catch (RuntimeException e) { got.add(\"throws \" + e.getClass().getSimpleName()); }\n");
                shown.add(call.group(1));
                due.add(call.group(2));
            } else {
                Check.is("a call without its answer: " + line, line.startsWith("x.") || line.contains("//") ? 1 : 0, 0);
                calls.append(line).append('\n');
            }
        }
    }

    private static List<?> runCalls(StringBuilder methods, StringBuilder calls) throws Exception {
        Path folder = Files.createTempDirectory("readme");
        try {
            Path source = folder.resolve("Shown.java");
            Files.writeString(source, "public final class Shown {\n" + methods
                    + "public static java.util.List<String> all() {\n"
                    + "java.util.List<String> got = new java.util.ArrayList<>();\n" + calls + "return got;\n}\n}\n");
            int code = ToolProvider.getSystemJavaCompiler().run(null, null, null, "--release", "17", "-cp",
                    System.getProperty("java.class.path"), "-d", folder.toString(), source.toString());
            Check.is("javac of README.md's calls", code, 0);
            if (code != 0) {
                return List.of();
            }
            try (URLClassLoader loader = new URLClassLoader(new URL[] {folder.toUri().toURL()})) {
                return (List<?>) loader.loadClass("Shown").getMethod("all").invoke(null);
            }
        } finally {
            remove(folder.toFile());
        }
    }

    private static void remove(File folder) {
        for (File file : folder.listFiles()) {
            file.delete();
        }
        folder.delete();
    }

    private static void allCalls(String readme) {
        for (Method method : EvenFinders.class.getDeclaredMethods()) {
            if (Modifier.isPublic(method.getModifiers())) {
                Check.is("README.md names " + method.getName(), readme.contains("`" + method.getName() + "`") ? 1 : 0, 1);
            }
        }
    }

    private static void allTests(String said) throws IOException {
        Set<String> named = new TreeSet<>();
        Matcher row = Pattern.compile("(?m)^\\| (\\w+Test(?:, \\w+Test)*) \\|").matcher(said);
        while (row.find()) {
            named.addAll(List.of(row.group(1).split(", ")));
        }
        Set<String> there = new TreeSet<>();
        for (String name : new File("src/test/java").list()) {
            if (name.endsWith("Test.java")) {
                there.add(name.substring(0, name.length() - 5));
            }
        }
        Check.same("the tests that README.md names", named.toString(), there.toString());
    }

    /** The first block is .ci/run alone; what the second does by hand, .ci/run does with the same words, and it works. */
    private static void commands(List<String> blocks, String script) throws Exception {
        Check.is("blocks of commands", blocks.size(), 2);
        Check.same("how all tests are run", blocks.get(0), ".ci/run\n");
        Check.is(".ci/run can be run", Files.isExecutable(Path.of(".ci/run")) ? 1 : 0, 1);
        List<String> taken = plain(script.replace("$main", "src/main/java/EvenFinders.java"));
        List<String> byHand = plain(blocks.get(1));
        Check.is("commands by hand", byHand.size(), 4);
        for (String command : byHand) {
            Check.is(".ci/run does " + command + " (it does " + taken + ")", taken.contains(command) ? 1 : 0, 1);
        }
        Process shell = new ProcessBuilder("bash", "-e", "-c", blocks.get(1)).redirectErrorStream(true).start();
        String printed = new String(shell.getInputStream().readAllBytes());
        Check.is("README.md's commands by hand, which print " + printed, shell.waitFor(), 0);
    }

    /** The commands of a script, with one name each for the folder, the test and the shared test's file. */
    private static List<String> plain(String script) {
        List<String> found = new ArrayList<>();
        Matcher command = COMMAND.matcher(script);
        while (command.find()) {
            found.add(command.group(1).replace("\"", "").trim().replaceAll(" -d \\S+", " -d OUT")
                    .replaceAll(" -cp \\S+ \\S+", " -cp OUT TEST").replaceAll(" (\\$file|\\.\\./shared/tests/\\w+\\.java)$", " FILE"));
        }
        return found;
    }
}
