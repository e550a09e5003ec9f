import java.io.IOException;
import java.lang.reflect.InvocationTargetException;
import java.net.URL;
import java.net.URLClassLoader;
import java.nio.file.Files;
import java.nio.file.Path;
import java.util.ArrayList;
import java.util.List;
import java.util.Set;
import java.util.TreeSet;
import java.util.concurrent.TimeUnit;
import java.util.function.Consumer;
import java.util.regex.Matcher;
import java.util.regex.Pattern;
import java.util.stream.Stream;
import javax.tools.ToolProvider;

/** README.md is true of the project: its calls answer as it says, its command runs, its tables name what there is. */
public final class ReadmeTest {
    private static final Path README = Path.of("README.md");
    private static final Path TESTS = Path.of("src", "test", "java");
    private static final Check C = new Check("ReadmeTest");

    private static int made = 0;

    public static void main(String[] args) throws Exception {
        String text = Files.readString(README);
        calls(blocks(text, "java"));
        codes(text);
        commands(blocks(text, "sh"));
        classesInside(text);
        tests(text);
        C.end();
    }

    private static List<String> blocks(String text, String language) {
        List<String> out = new ArrayList<>();
        Matcher block = Pattern.compile("```" + language + "\n(.*?)```", Pattern.DOTALL).matcher(text);
        while (block.find()) {
            out.add(block.group(1));
        }
        return out;
    }

    /** The blocks become a class: methods stay, all other lines one main part, each answer told to due(). */
    private static void calls(List<String> blocks) throws Exception {
        StringBuilder methods = new StringBuilder();
        StringBuilder lines = new StringBuilder();
        Set<String> told = new TreeSet<>();
        int answers = 0;
        for (String block : blocks) {
            if (block.startsWith("static ")) {
                methods.append(block);
                continue;
            }
            for (String line : block.split("\n")) {
                Matcher call = Pattern.compile("(?:int (\\w+) = )?((?:x\\.)?(\\w+)\\(.*\\)); *// (-?\\d+)(:.*)?").matcher(line);
                if (!call.matches()) {
                    C.holds("a line that is no call: " + line, line.equals("TollsBack x = new TollsBack();"));
                    lines.append(line).append("\n");
                    continue;
                }
                answers++;
                told.add(call.group(3));
                String name = call.group(1) == null ? "answer" + answers : call.group(1);
                lines.append("int ").append(name).append(" = (int) ").append(call.group(2)).append(";\n");
                lines.append("due.accept(new long[] {").append(answers).append(", ").append(name).append(", ")
                        .append(call.group(4)).append("});\n");
            }
        }
        C.holds("calls are shown", answers > 40 && told.size() > 30);
        run("public final class Shown {\n" + methods
                + "public static void run(java.util.function.Consumer<long[]> due) {\n" + lines + "}\n}\n");
        C.due("all calls that are shown were made", made, answers);
    }

    private static void due(long[] numbered) {
        made++;
        C.due("call " + numbered[0] + " of README.md", numbered[1], numbered[2]);
    }

    private static void run(String source) throws Exception {
        Path dir = Files.createTempDirectory(Files.createDirectories(Path.of("build")), "readme");
        Path file = Files.writeString(dir.resolve("Shown.java"), source);
        int code = ToolProvider.getSystemJavaCompiler().run(null, null, null, "-cp", System.getProperty("java.class.path"),
                "-d", dir.toString(), file.toString());
        C.due("README.md's calls compile", code, 0);
        if (code == 0) {
            try (URLClassLoader loader = new URLClassLoader(new URL[] {dir.toUri().toURL()})) {
                Consumer<long[]> due = ReadmeTest::due;
                loader.loadClass("Shown").getMethod("run", Consumer.class).invoke(null, due);
            } catch (InvocationTargetException e) {
                C.holds("README.md's calls threw " + e.getCause(), false);
            }
        }
        Files.deleteIfExists(dir.resolve("Shown.class"));
        Files.delete(file);
        Files.delete(dir);
    }

    private static void codes(String text) {
        Set<String> told = names(text, "| code | why |", "\\| (-\\d+) .*");
        C.holds("codes that are told: " + told,
                told.equals(Set.of("-1", "-2", "-3", "-4", "-5", "-6", "-7", "-8", "-9", "-30", "-1000000")));
        C.due("NONE", TollsBack.NONE, -1);
    }

    /** All but .ci/run itself, which runs this. */
    private static void commands(List<String> blocks) throws Exception {
        C.due("commands that are shown", blocks.size(), 2);
        C.holds("the first runs all tests", blocks.get(0).equals(".ci/run\n") && Files.isExecutable(Path.of(".ci", "run")));
        Process p = new ProcessBuilder("bash", "-c", blocks.get(1)).redirectErrorStream(true).start();
        String printed = new String(p.getInputStream().readAllBytes());
        C.holds("it ends", p.waitFor(300, TimeUnit.SECONDS));
        C.due("a single test: " + printed, p.exitValue(), 0);
        C.holds("a single test printed " + printed, printed.endsWith(" 0 wrong\n"));
    }

    private static void classesInside(String text) {
        Set<String> are = new TreeSet<>();
        for (Class<?> k : TollsBack.class.getDeclaredClasses()) {
            are.add(k.getSimpleName());
        }
        Set<String> told = names(text, "| class inside |", "\\| `(\\w+)` .*");
        C.holds("classes inside are " + are + ", told are " + told, are.equals(told));
    }

    private static void tests(String text) throws IOException {
        Set<String> are = new TreeSet<>();
        Set<String> files = new TreeSet<>();
        try (Stream<Path> all = Files.list(TESTS)) {
            for (Path p : all.toList()) {
                String name = p.getFileName().toString().replace(".java", "");
                files.add(name);
                if (name.endsWith("Test")) {
                    are.add(name);
                }
            }
        }
        Set<String> told = names(text, "| test |", "\\| `(\\w+)` .*");
        C.holds("tests are " + are + ", told are " + told, are.equals(told));
        for (String name : files) {
            C.holds("README.md names " + name, text.contains("`" + name + "`") || text.contains("`" + name + "."));
        }
    }

    /** What stands first in the lines of a table. */
    private static Set<String> names(String text, String head, String line) {
        Set<String> out = new TreeSet<>();
        int from = text.indexOf(head);
        int end = text.indexOf("\n\n", from);
        C.holds("a table: " + head, from >= 0 && end > from);
        for (String row : text.substring(Math.max(from, 0), Math.max(end, 0)).split("\n")) {
            Matcher m = Pattern.compile(line).matcher(row);
            if (m.matches()) {
                out.add(m.group(1));
            }
        }
        return out;
    }
}
