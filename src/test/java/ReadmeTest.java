import java.io.IOException;
import java.lang.reflect.Method;
import java.lang.reflect.Modifier;
import java.net.URL;
import java.net.URLClassLoader;
import java.nio.file.Files;
import java.nio.file.Path;
import java.util.ArrayList;
import java.util.Comparator;
import java.util.List;
import java.util.regex.Matcher;
import java.util.regex.Pattern;
import java.util.stream.Stream;

/** What README.md tells holds as it is written; it runs where the project's root is. */
public final class ReadmeTest {
    private static final Checks c = new Checks();
    private static final Pattern BLOCK = Pattern.compile("(?s)```java\n(.*?)```");
    private static final Pattern SHOWN = Pattern.compile("^\\s*((?:x\\.\\w+|tell)\\(.*\\));\\s*// (-?\\d+|[A-Z]+): .+$");
    private static final Pattern FREE = Pattern.compile("^\\s*(SevenBlows x = .*;)?$");
    private static int shown;

    public static void main(String[] args) throws Exception {
        String page = Files.readString(Path.of("README.md"));
        answersAreAsShown(page);
        everyCallIsShown(page);
        everyTestIsNamed(page);
        commandRunsAllTests(page);
        c.end();
    }

    /** For the program that the blocks of the page become; that is loaded apart, so this is public. */
    public static void due(String call, int want, int got) {
        shown++;
        c.due("README's " + call, want, got);
    }

    private static void answersAreAsShown(String page) throws Exception {
        StringBuilder members = new StringBuilder();
        StringBuilder calls = new StringBuilder();
        int inPage = 0;
        Matcher blocks = BLOCK.matcher(page);
        while (blocks.find()) {
            if (blocks.group(1).startsWith("static ")) {
                members.append(blocks.group(1));
                continue;
            }
            for (String line : blocks.group(1).split("\n")) {
                Matcher call = SHOWN.matcher(line);
                boolean answered = call.matches();
                c.holds("README's line tells its answer: " + line, answered || FREE.matcher(line).matches());
                inPage += answered ? 1 : 0;
                calls.append(answered ? asCheck(call.group(1), call.group(2)) : line).append('\n');
            }
        }
        run("public final class Shown {\n" + members + "public static void main(String[] args) {\n" + calls + "}\n}\n");
        c.holds("calls are shown", inPage > 50);
        c.due("calls made as shown", inPage, shown);
    }

    private static String asCheck(String call, String want) {
        String number = want.matches("[A-Z]+") ? "SevenBlows." + want : want;
        return "ReadmeTest.due(\"" + call.replace("\"", "\\\"") + "\", " + number + ", " + call + ");";
    }

    private static void run(String program) throws Exception {
        Path folder = Files.createTempDirectory("readme");
        Path file = folder.resolve("Shown.java");
        Files.writeString(file, program);
        String here = System.getProperty("java.class.path");
        Process javac = new ProcessBuilder("javac", "-cp", here, "-d", folder.toString(), file.toString()).inheritIO().start();
        int ended = javac.waitFor();
        c.due("README's lines compile", 0, ended);
        if (ended == 0) {
            try (URLClassLoader loader = new URLClassLoader(new URL[] {folder.toUri().toURL()})) {
                loader.loadClass("Shown").getMethod("main", String[].class).invoke(null, (Object) new String[0]);
            }
        }
        try (Stream<Path> all = Files.walk(folder)) {
            for (Path each : all.sorted(Comparator.reverseOrder()).toList()) {
                Files.delete(each);
            }
        }
    }

    private static void everyCallIsShown(String page) {
        int calls = 0;
        for (Method m : SevenBlows.class.getDeclaredMethods()) {
            if (Modifier.isPublic(m.getModifiers())) {
                calls++;
                c.holds("README shows " + m.getName(), page.contains("x." + m.getName() + "("));
            }
        }
        c.due("calls of the document", 29, calls);
        for (String constant : new String[] {"NONE", "UNKNOWN", "OUTSIDE", "NOT", "FULL"}) {
            c.holds("README names " + constant, page.contains("`" + constant + "`"));
        }
    }

    private static void everyTestIsNamed(String page) throws IOException {
        List<String> named = new ArrayList<>();
        Matcher rows = Pattern.compile("(?m)^\\| `(\\w+)` \\|").matcher(page);
        while (rows.find()) {
            named.add(rows.group(1));
        }
        List<String> found = new ArrayList<>();
        try (Stream<Path> all = Files.list(Path.of("src/test/java"))) {
            all.map(each -> each.getFileName().toString()).filter(name -> name.endsWith("Test.java"))
                .forEach(name -> found.add(name.replace(".java", "")));
        }
        c.same("README's tests", found.stream().sorted().toList().toString(), named.stream().sorted().toList().toString());
    }

    private static void commandRunsAllTests(String page) throws IOException {
        Path command = Path.of(".ci/run");
        c.holds("README names .ci/run", page.contains("\n    .ci/run\n"));
        c.holds(".ci/run can be called", Files.isExecutable(command));
        String script = Files.readString(command);
        c.holds(".ci/run goes over the project's tests", script.contains("for test in src/test/java/*Test.java"));
        c.holds(".ci/run goes over the shared tests", script.contains("find -L ../shared/tests -name '*.java'"));
    }
}
