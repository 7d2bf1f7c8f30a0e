import java.lang.reflect.Method;
import java.net.URL;
import java.net.URLClassLoader;
import java.nio.file.Files;
import java.nio.file.Path;
import java.util.ArrayList;
import java.util.Arrays;
import java.util.List;
import java.util.Set;
import java.util.TreeSet;
import java.util.regex.Matcher;
import java.util.regex.Pattern;
import javax.tools.ToolProvider;

/** What README.md says of the class holds: its examples answer as told, and its tables have the whole face. */
public final class ReadmeTest {
    private static final Pattern EXAMPLE = Pattern.compile("```java\n(.*?)```", Pattern.DOTALL);
    private static final Pattern ANSWER = Pattern.compile("^(x\\.\\w+\\(.*\\)); *// (-?\\d+)\\b.*$");
    private static final Pattern ROW = Pattern.compile("^\\| `(\\w+)\\(([^)]*)\\)` \\|.*\\|([^|]*)\\|$", Pattern.MULTILINE);
    private static final Pattern OTHER_BAD = Pattern.compile("(-\\d+) for `BAD`");

    private static int wrong = 0;

    /** The first argument is the program's source, as .ci/run tells it; the page is at the checkout's root. */
    public static void main(String[] args) throws Exception {
        Path root = Path.of(args[0]).toAbsolutePath().getParent().resolve("../../..").normalize();
        String page = Files.readString(root.resolve("README.md"));
        examples(page);
        tables(page);
        check(page.contains("```sh\n.ci/run\n```"), "the page says how to run the tests");
        testsAreTold(page, root.resolve("src/test/java"));
        System.out.println(wrong == 0 ? "README.md holds" : wrong + " things that README.md says do not hold");
        if (wrong != 0) {
            System.exit(1);
        }
    }

    private static void check(boolean so, String what) {
        if (!so) {
            wrong++;
            System.out.println("not so: " + what);
        }
    }

    // ---- the examples

    private static void examples(String page) throws Exception {
        Matcher m = EXAMPLE.matcher(page);
        List<String> bodies = new ArrayList<>();
        int answers = 0;
        while (m.find()) {
            StringBuilder body = new StringBuilder();
            for (String line : m.group(1).split("\n")) {
                Matcher answer = ANSWER.matcher(line);
                boolean told = answer.matches();
                answers += told ? 1 : 0;
                check(told || !line.startsWith("x."), "an answer is told at '" + line + "'");
                body.append(told ? "if (" + answer.group(1) + " != " + answer.group(2) + ") { wrong.append(\""
                    + answer.group(1) + "\").append('\\n'); }" : line).append('\n');
            }
            bodies.add(body.toString());
        }
        check(bodies.size() >= 3 && answers >= 20, "the examples were found");
        String found = runAll(bodies);
        check(found.isEmpty(), "these answer as the page tells:\n" + found);
    }

    /** Makes a class of the examples, and answers which of their calls do not answer as told. */
    private static String runAll(List<String> bodies) throws Exception {
        StringBuilder source = new StringBuilder("public final class Examples {\n");
        source.append("public static String all() {\nStringBuilder wrong = new StringBuilder();\n");
        for (String body : bodies) {
            source.append("{\n").append(body).append("}\n");
        }
        source.append("return wrong.toString();\n}\n}\n");
        Path dir = Files.createTempDirectory("examples");
        Path file = dir.resolve("Examples.java");
        try {
            Files.writeString(file, source);
            int code = ToolProvider.getSystemJavaCompiler().run(null, null, null, "-proc:none", "-cp",
                System.getProperty("java.class.path"), "-d", dir.toString(), file.toString());
            if (code != 0) {
                return "the examples do not compile";
            }
            try (URLClassLoader loader = new URLClassLoader(new URL[] {dir.toUri().toURL()})) {
                return (String) loader.loadClass("Examples").getMethod("all").invoke(null);
            }
        } finally {
            Files.deleteIfExists(dir.resolve("Examples.class"));
            Files.deleteIfExists(file);
            Files.deleteIfExists(dir);
        }
    }

    // ---- the tables

    private static void tables(String page) throws Exception {
        Set<String> told = new TreeSet<>();
        Matcher row = ROW.matcher(page);
        while (row.find()) {
            int numbers = row.group(2).isEmpty() ? 0 : row.group(2).split(", ").length;
            check(told.add(row.group(1) + "/" + numbers), row.group(1) + " is told once");
            refusal(row.group(1), numbers, row.group(3));
        }
        Set<String> face = new TreeSet<>();
        for (Method m : RopeLaw.class.getMethods()) {
            if (m.getDeclaringClass() == RopeLaw.class) {
                face.add(m.getName() + "/" + m.getParameterCount());
            }
        }
        check(told.equals(face), "the tables have the face " + face + ", not " + told);
    }

    /** No call takes the least number there is, so the answer to it must be the one told for BAD. */
    private static void refusal(String name, int numbers, String told) throws Exception {
        Class<?>[] types = new Class<?>[numbers];
        Arrays.fill(types, int.class);
        Object[] least = new Object[numbers];
        Arrays.fill(least, Integer.MIN_VALUE);
        RopeLaw x = new RopeLaw();
        Number answer = (Number) RopeLaw.class.getMethod(name, types).invoke(x, least);
        check(numbers > 0 == told.contains("BAD"), name + " can be BAD as told");
        check(x.status(0) == (numbers > 0 ? 1 : 0), name + " is counted as BAD as told");
        if (numbers > 0) {
            Matcher other = OTHER_BAD.matcher(told);
            long due = other.find() ? Long.parseLong(other.group(1)) : RopeLaw.BAD;
            check(answer.longValue() == due, name + " answers " + answer + " to what is BAD, told is " + due);
        }
    }

    // ---- the tests

    private static void testsAreTold(String page, Path tests) throws Exception {
        try (var files = Files.list(tests)) {
            for (Path file : files.toList()) {
                String name = file.getFileName().toString();
                boolean told = name.endsWith("SentencesTest.java")
                    ? page.contains("`" + name.replace("SentencesTest.java", "") + "`") : page.contains(name);
                check(told, "the page tells of " + name);
            }
        }
    }
}
