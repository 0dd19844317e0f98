import java.io.File;
import java.io.IOException;
import java.lang.reflect.Method;
import java.lang.reflect.Modifier;
import java.net.URL;
import java.net.URLClassLoader;
import java.nio.file.Files;
import java.nio.file.Path;
import java.util.ArrayList;
import java.util.Comparator;
import java.util.HashSet;
import java.util.List;
import java.util.Set;
import java.util.regex.Matcher;
import java.util.regex.Pattern;
import java.util.stream.Stream;
import javax.tools.ToolProvider;

/** README.md: its calls have the answers that it tells, and its ways to run the tests work. */
public final class ReadmeTest {
    private static final Check CHECK = new Check();
    private static final Pattern BLOCK = Pattern.compile("(?ms)^```(\\w+)\n(.*?)^```$");
    private static final Pattern CALL = Pattern.compile("(x\\.(\\w+)\\(.*\\)); +// (-?[0-9]+|true|false)(: .+)?");
    private static final Pattern MADE = Pattern.compile("LentSundays x = new LentSundays\\(\\);|feed\\(x, \".*\"\\);");
    private static final int FEWEST_CALLS = 43;

    public static void main(String[] args) throws Exception {
        String page = Files.readString(Path.of("README.md"));
        Path folder = Files.createTempDirectory("readme");
        try {
            callsHaveTheAnswersTold(page, folder);
            commandsWork(page, folder);
        } finally {
            delete(folder);
        }
        everyCallIsShown(page);
        everyTestIsTold(page);
        CHECK.end("ReadmeTest");
    }

    private static List<String> blocks(String page, String language) {
        List<String> all = new ArrayList<>();
        Matcher block = BLOCK.matcher(page);
        while (block.find()) {
            if (block.group(1).equals(language)) {
                all.add(block.group(2));
            }
        }
        return all;
    }

    /** The page's Java as one class: what is static as it stands, all else in one method, in the page's order. */
    private static void callsHaveTheAnswersTold(String page, Path folder) throws Exception {
        StringBuilder members = new StringBuilder();
        StringBuilder lines = new StringBuilder();
        for (String block : blocks(page, "java")) {
            if (block.startsWith("static ")) {
                members.append(block);
            } else {
                block.lines().filter(line -> !line.isBlank()).forEach(line -> lines.append(asJava(line)));
            }
        }
        Path file = folder.resolve("Readme.java");
        Files.writeString(file, "public class Readme {\n" + members
            + "public static void run(java.util.List<Object[]> all) {\n" + lines + "}\n}\n");
        int failed = ToolProvider.getSystemJavaCompiler().run(null, null, null, "--release", "17", "-cp",
            System.getProperty("java.class.path"), "-d", folder.toString(), file.toString());
        CHECK.due("javac of the page's Java", failed, 0);
        if (failed == 0) {
            List<Object[]> all = new ArrayList<>();
            try (URLClassLoader loader = new URLClassLoader(new URL[] {folder.toUri().toURL()})) {
                loader.loadClass("Readme").getMethod("run", List.class).invoke(null, all);
            }
            for (Object[] one : all) {
                CHECK.due(one[0] + " answered " + one[1] + ", told is " + one[2], one[1].equals(one[2]), true);
            }
            CHECK.due("as many calls as promises: " + all.size(), all.size() >= FEWEST_CALLS, true);
        }
    }

    private static String asJava(String line) {
        Matcher call = CALL.matcher(line);
        if (call.matches()) {
            return "all.add(new Object[] {\"" + call.group(1) + "\", " + call.group(1) + ", " + call.group(3) + "});\n";
        }
        CHECK.due("a line of the page with neither answer nor text: " + line, MADE.matcher(line).matches(), true);
        return line + "\n";
    }

    private static void everyCallIsShown(String page) {
        Set<String> shown = new HashSet<>();
        for (String block : blocks(page, "java")) {
            block.lines().map(CALL::matcher).filter(Matcher::matches).forEach(call -> shown.add(call.group(2)));
        }
        for (Method m : LentSundays.class.getDeclaredMethods()) {
            if (Modifier.isPublic(m.getModifiers())) {
                CHECK.due("the page shows an answer of " + m.getName(), shown.contains(m.getName()), true);
            }
        }
    }

    /** In a copy of what is compiled, so that the checkout stays as it is; .ci/run is what runs this test. */
    private static void commandsWork(String page, Path folder) throws Exception {
        List<String> commands = blocks(page, "sh");
        CHECK.due("the page tells .ci/run", commands.remove(".ci/run\n"), true);
        CHECK.due(".ci/run can be run", Files.isExecutable(Path.of(".ci/run")), true);
        CHECK.due("the page tells how one test is run", commands.size(), 1);
        Path copy = folder.resolve("checkout");
        try (Stream<Path> files = Files.walk(Path.of("src"))) {
            for (Path file : (Iterable<Path>) files.filter(Files::isRegularFile)::iterator) {
                Files.createDirectories(copy.resolve(file).getParent());
                Files.copy(file, copy.resolve(file));
            }
        }
        for (String block : commands) {
            File log = folder.resolve("log").toFile();
            int code = new ProcessBuilder("sh", "-e", "-c", block).directory(copy.toFile()).redirectErrorStream(true)
                .redirectOutput(log).start().waitFor();
            CHECK.due("the page's commands\n" + block + (code == 0 ? "" : Files.readString(log.toPath())), code, 0);
        }
    }

    private static void everyTestIsTold(String page) throws IOException {
        try (Stream<Path> files = Files.list(Path.of("src/test/java"))) {
            files.map(file -> file.getFileName().toString()).filter(name -> name.endsWith("Test.java")).forEach(name ->
                CHECK.due("the page tells " + name, page.contains("- `" + name.replace(".java", "`:")), true));
        }
    }

    private static void delete(Path folder) throws IOException {
        try (Stream<Path> files = Files.walk(folder)) {
            for (Path file : files.sorted(Comparator.reverseOrder()).toList()) {
                Files.delete(file);
            }
        }
    }
}
