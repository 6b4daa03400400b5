import java.io.PrintWriter;
import java.lang.reflect.Method;
import java.lang.reflect.Modifier;
import java.net.URL;
import java.net.URLClassLoader;
import java.nio.file.Files;
import java.nio.file.Path;
import java.util.ArrayList;
import java.util.List;
import java.util.regex.Matcher;
import java.util.regex.Pattern;
import java.util.spi.ToolProvider;
import java.util.stream.Stream;

/** What README.md shows is so: its examples, its table of calls, and the tests that it names. Runs in the project's folder. */
public final class ReadmeTest {
    /** A statement that calls, and the answer behind it. */
    private static final Pattern EXAMPLE = Pattern.compile("(?:(\\w+ \\w+) = )?(\\w.*\\)); +// (-?\\d+|true|false)(:.*)?");
    private static final Pattern OBJECT = Pattern.compile("StairRods \\w+ = new StairRods\\(\\);");
    private static final Pattern ROW = Pattern.compile("\\| (\\d+) \\| `([^`]+)` \\| [^|]+ \\| (`NONE`|`false`|-2|-) \\|");
    private static final Due DUE = new Due();

    public static void main(String[] args) throws Exception {
        String readme = Files.readString(Path.of("README.md"));
        examples(readme);
        table(readme, Files.readString(Path.of("../shared/DOC.md")));
        tests(readme);
        DUE.finish("ReadmeTest");
    }

    private static List<String> blocks(String text, String language) {
        List<String> blocks = new ArrayList<>();
        Matcher m = Pattern.compile("(?ms)^```" + language + "\n(.*?)^```$").matcher(text);
        while (m.find()) {
            blocks.add(m.group(1));
        }
        return blocks;
    }

    // ---- examples

    private static void examples(String readme) throws Exception {
        DUE.test("README.md, examples");
        StringBuilder methods = new StringBuilder();
        StringBuilder statements = new StringBuilder();
        List<String> calls = new ArrayList<>();
        List<String> want = new ArrayList<>();
        for (String block : blocks(readme, "java")) {
            if (block.startsWith("static ")) {
                methods.append(block);
                continue;
            }
            for (String line : block.split("\n")) {
                Matcher m = EXAMPLE.matcher(line);
                if (m.matches()) {
                    String name = m.group(1) == null ? "Object answer" + calls.size() : m.group(1);
                    statements.append(name).append(" = ").append(m.group(2)).append(";\nanswers.add(String.valueOf(")
                        .append(name.substring(name.indexOf(' ') + 1)).append("));\n");
                    calls.add(m.group(2));
                    want.add(m.group(3));
                } else {
                    DUE.that("a call with its answer: " + line, OBJECT.matcher(line).matches());
                    statements.append(line).append('\n');
                }
            }
        }
        DUE.that("there are examples", calls.size() > 30);
        List<String> got = run("public final class ReadmeExamples {\n" + methods
            + "public static void run(java.util.List<String> answers) {\n" + statements + "}\n}\n");
        for (int i = 0; i < calls.size(); i++) {
            String answer = i < got.size() ? got.get(i) : "nothing";
            DUE.that(calls.get(i) + " answers " + answer + ", README.md says " + want.get(i), answer.equals(want.get(i)));
        }
    }

    private static List<String> run(String source) throws Exception {
        Path folder = Files.createTempDirectory("readme");
        List<String> answers = new ArrayList<>();
        try {
            Path file = Files.writeString(folder.resolve("ReadmeExamples.java"), source);
            PrintWriter out = new PrintWriter(System.out, true);
            int code = ToolProvider.findFirst("javac").orElseThrow().run(out, out, "-d", folder.toString(), "-cp",
                System.getProperty("java.class.path"), file.toString());
            DUE.is("the examples compile", code, 0);
            try (URLClassLoader loader = new URLClassLoader(new URL[] {folder.toUri().toURL()})) {
                loader.loadClass("ReadmeExamples").getMethod("run", List.class).invoke(null, answers);
            }
        } finally {
            try (Stream<Path> files = Files.list(folder)) {
                for (Path file : files.toList()) {
                    Files.delete(file);
                }
            }
            Files.delete(folder);
        }
        return answers;
    }

    // ---- the table of calls

    private static void table(String readme, String document) throws Exception {
        DUE.test("README.md, the calls");
        List<String> face = new ArrayList<>();
        Matcher due = Pattern.compile("public ([^;={]*\\));").matcher(blocks(document, "java").get(0));
        while (due.find()) {
            face.add(due.group(1));
        }
        DUE.is("the calls of the document", face.size(), 60);
        List<String> rows = new ArrayList<>();
        Matcher row = ROW.matcher(readme);
        while (row.find()) {
            rows.add(row.group(2));
            DUE.is("the number of " + row.group(2), Integer.parseInt(row.group(1)), rows.size());
            wrong(row.group(2), row.group(3).replace("`", ""));
        }
        DUE.same("the rows of the table", String.join("\n", face), String.join("\n", rows));
    }

    /** The last column, in a new house and in a full one. */
    private static void wrong(String call, String answer) throws Exception {
        Method method = methodOf(call.replaceAll("\\(.*", "").replaceAll(".* ", ""));
        boolean hasWrong = call.contains("(int") && !call.contains("feed(");
        DUE.is(call + " has wrong arguments", !answer.equals("-"), hasWrong);
        for (int number : hasWrong ? new int[] {Due.LOW, -3, 100000000, Due.HIGH} : new int[0]) {
            for (StairRods house : new StairRods[] {new StairRods(), Houses.of(1, 2, 3, 4, 5, 6)}) {
                Object[] row = new Object[method.getParameterCount()];
                for (int i = 0; i < row.length; i++) {
                    row[i] = method.getParameterTypes()[i] == int.class ? (Object) number : (Object) true;
                }
                String got = String.valueOf(method.invoke(house, row)).replaceAll("^-1$", "NONE");
                DUE.that(call + " with " + number + " answers " + got + ", README.md says " + answer, got.equals(answer));
            }
        }
    }

    private static Method methodOf(String name) {
        for (Method method : StairRods.class.getDeclaredMethods()) {
            if (method.getName().equals(name) && Modifier.isPublic(method.getModifiers())) {
                return method;
            }
        }
        return null;
    }

    // ---- the tests

    private static void tests(String readme) throws Exception {
        DUE.test("README.md, the tests");
        try (Stream<Path> files = Files.list(Path.of("src/test/java"))) {
            for (Path file : files.toList()) {
                String name = file.getFileName().toString().replace(".java", "");
                boolean isTest = Files.readString(file).contains("public static void main");
                DUE.that("it names " + name, !isTest || readme.contains("`" + name + "`"));
            }
        }
    }
}
