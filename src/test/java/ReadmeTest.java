import java.io.IOException;
import java.lang.reflect.Method;
import java.lang.reflect.Modifier;
import java.net.URL;
import java.net.URLClassLoader;
import java.nio.file.Files;
import java.nio.file.Path;
import java.util.ArrayList;
import java.util.List;
import java.util.Set;
import java.util.TreeSet;
import java.util.regex.Matcher;
import java.util.regex.Pattern;
import java.util.stream.Stream;
import javax.tools.JavaCompiler;
import javax.tools.ToolProvider;

/** README.md tells what is so: its example compiles and has these answers, and it names every call and every test. */
public final class ReadmeTest {
    private static final Check CHECK = new Check();
    private static final Pattern EXAMPLE = Pattern.compile("(?s)```java\n(.*?)```");
    /** A call with its answer behind it, perhaps kept in a variable; the call's line is looked at as it stands. */
    private static final Pattern ANSWERED =
        Pattern.compile("(?:int (\\w+) = )?(x\\.\\w+\\([^;]*\\)); +// (-?[0-9]+|NONE|BAD|STATE|FULL|NO)(?: .*)?");
    private static final int LEAST_ANSWERS = 50;

    public static void main(String[] args) throws Exception {
        String page = Files.readString(Path.of("README.md"));
        Matcher example = EXAMPLE.matcher(page);
        so("there is an example", example.find());
        String code = example.group(1);
        so("there is one example alone", !example.find());
        answers(code);
        calls(code, page);
        tests(page);
        CHECK.end("ReadmeTest");
    }

    private static void so(String what, boolean holds) {
        CHECK.due(what, holds ? 1 : 0, 1);
    }

    private static void answers(String code) throws Exception {
        List<String> asked = new ArrayList<>();
        StringBuilder body = new StringBuilder();
        for (String line : code.split("\n")) {
            Matcher m = ANSWERED.matcher(line);
            if (m.matches()) {
                String keep = m.group(1) == null ? "" : "int " + m.group(1) + " = (int) ";
                String want = m.group(3).matches("[A-Z]+") ? "BoxFlow." + m.group(3) : m.group(3) + "L";
                body.append(keep).append("due(").append(asked.size()).append(", ").append(m.group(2)).append(", ")
                    .append(want).append(");\n");
                asked.add(m.group(2));
            } else {
                so("an answer that is not looked at: " + line, !line.matches(".*\\S.*//.*"));
                body.append(line).append('\n');
            }
        }
        so("most of the calls have answers", asked.size() >= LEAST_ANSWERS);
        long[][] answers = run(body.toString(), asked.size());
        for (int i = 0; i < asked.size(); i++) {
            CHECK.due("README.md: " + asked.get(i), answers[0][i], answers[1][i]);
        }
    }

    /** What the example's calls answered, and what stands behind them. */
    private static long[][] run(String body, int n) throws Exception {
        String source = "public final class ReadmeExample {\n"
            + "public static final long[][] ANSWERS = new long[2][" + n + "];\n"
            + "static long due(int i, long got, long want) { ANSWERS[0][i] = got; ANSWERS[1][i] = want; return got; }\n"
            + "public static void run() {\n" + body + "}\n}\n";
        Path folder = Files.createTempDirectory("readme");
        Path file = folder.resolve("ReadmeExample.java");
        Files.writeString(file, source);
        try (URLClassLoader loader = new URLClassLoader(new URL[] {folder.toUri().toURL()})) {
            JavaCompiler compiler = ToolProvider.getSystemJavaCompiler();
            int code = compiler.run(null, null, null, "-cp", System.getProperty("java.class.path"), "-d",
                folder.toString(), file.toString());
            CHECK.due("README.md: the example compiles", code, 0);
            if (code != 0) {
                CHECK.end("ReadmeTest");
            }
            Class<?> example = loader.loadClass("ReadmeExample");
            example.getMethod("run").invoke(null);
            return (long[][]) example.getField("ANSWERS").get(null);
        } finally {
            remove(folder);
        }
    }

    private static void remove(Path folder) throws IOException {
        try (Stream<Path> files = Files.list(folder)) {
            for (Path file : files.toList()) {
                Files.delete(file);
            }
        }
        Files.delete(folder);
    }

    /** The example uses each call; the list of calls names them all, and no other. */
    private static void calls(String code, String page) {
        Set<String> names = new TreeSet<>();
        for (Method m : BoxFlow.class.getDeclaredMethods()) {
            if (Modifier.isPublic(m.getModifiers())) {
                names.add(m.getName());
            }
        }
        for (String name : names) {
            so("the example uses " + name, code.contains("x." + name + "("));
        }
        Set<String> listed = new TreeSet<>();
        Matcher row = Pattern.compile("(?m)^\\| ((?:`\\w+` )+)\\|").matcher(page);
        while (row.find()) {
            for (String name : row.group(1).trim().split(" ")) {
                so(name + " is listed once", listed.add(name.replace("`", "")));
            }
        }
        so("the calls that are listed are " + names + ", not " + listed, listed.equals(names));
    }

    private static void tests(String page) throws IOException {
        Set<String> there = new TreeSet<>();
        try (Stream<Path> files = Files.list(Path.of("src/test/java"))) {
            files.map(file -> file.getFileName().toString()).filter(name -> name.endsWith("Test.java"))
                .forEach(name -> there.add(name.replace(".java", "")));
        }
        Set<String> told = new TreeSet<>();
        Matcher row = Pattern.compile("(?m)^\\| (\\w+Test) \\|").matcher(page);
        while (row.find()) {
            told.add(row.group(1));
        }
        so("the tests that are named are " + there + ", not " + told, told.equals(there));
    }
}
