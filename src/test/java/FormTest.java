import java.lang.reflect.Constructor;
import java.lang.reflect.Field;
import java.lang.reflect.Member;
import java.lang.reflect.Method;
import java.lang.reflect.Modifier;
import java.nio.file.Files;
import java.nio.file.Path;
import java.util.ArrayDeque;
import java.util.Arrays;
import java.util.Deque;
import java.util.HashMap;
import java.util.List;
import java.util.Map;
import java.util.TreeSet;
import java.util.regex.Matcher;
import java.util.regex.Pattern;

/** The form that LANGUAGE.md asks for, as far as reflection and a look at the lines can tell. Runs in the project's folder. */
public final class FormTest {
    private static final Due DUE = new Due();

    public static void main(String[] args) throws Exception {
        face(Files.readString(Path.of("../shared/DOC.md")));
        members();
        lines(Files.readString(Path.of("src/main/java/StairRods.java")));
        DUE.finish("FormTest");
    }

    /** The document's methods, written as name(type,type)type. */
    private static TreeSet<String> dueFace(String document) {
        TreeSet<String> face = new TreeSet<>();
        Matcher m = Pattern.compile("\n    public (\\w+) (\\w+)\\(([^)]*)\\);").matcher(document);
        while (m.find()) {
            face.add(m.group(2) + "(" + m.group(3).replaceAll("(\\w+) \\w+", "$1").replace(" ", "") + ")" + m.group(1));
        }
        DUE.is("methods of the document", face.size(), 59);
        return face;
    }

    private static void face(String document) {
        TreeSet<String> want = dueFace(document);
        TreeSet<String> got = new TreeSet<>();
        TreeSet<String> names = new TreeSet<>();
        for (Method m : StairRods.class.getDeclaredMethods()) {
            if (Modifier.isPublic(m.getModifiers())) {
                StringBuilder s = new StringBuilder(m.getName()).append('(');
                for (Class<?> c : m.getParameterTypes()) {
                    s.append(s.charAt(s.length() - 1) == '(' ? "" : ",").append(c);
                }
                got.add(s.append(')').append(m.getReturnType()).toString());
                names.add(m.getName());
            }
        }
        DUE.that("the public methods are the document's: " + got, got.equals(want));
        for (Method m : StairRods.class.getDeclaredMethods()) {
            DUE.that(m + " bears no public name", Modifier.isPublic(m.getModifiers()) || !names.contains(m.getName()));
        }
        for (Class<?> c : StairRods.class.getDeclaredClasses()) {
            for (Method m : c.getDeclaredMethods()) {
                DUE.that(m + " bears no public name", !names.contains(m.getName()));
            }
        }
        DUE.that("the class is public and final", StairRods.class.getModifiers() == (Modifier.PUBLIC | Modifier.FINAL));
        DUE.that("one constructor", StairRods.class.getDeclaredConstructors().length == 1);
        for (Constructor<?> c : StairRods.class.getDeclaredConstructors()) {
            DUE.that("it is public, without parameters", Modifier.isPublic(c.getModifiers()) && c.getParameterCount() == 0);
        }
        DUE.is("NONE", StairRods.NONE, -1);
    }

    private static void hidden(Member m) {
        DUE.that(m + " can't be seen from outside", Modifier.isPublic(m.getModifiers()) || Modifier.isPrivate(m.getModifiers()));
    }

    private static void members() {
        Arrays.stream(StairRods.class.getDeclaredMethods()).forEach(FormTest::hidden);
        for (Field f : StairRods.class.getDeclaredFields()) {
            hidden(f);
            DUE.that(f + " is public for NONE alone", !Modifier.isPublic(f.getModifiers()) || f.getName().equals("NONE"));
        }
        Class<?>[] inside = StairRods.class.getDeclaredClasses();
        DUE.that("at most twelve classes", inside.length + 1 <= 12);
        for (Class<?> c : inside) {
            DUE.that(c + " is static", Modifier.isStatic(c.getModifiers()) && !Modifier.isPublic(c.getModifiers()));
            fields(c);
        }
        fields(StairRods.class);
    }

    private static void fields(Class<?> c) {
        int own = 0;
        for (Field f : c.getDeclaredFields()) {
            boolean constant = Modifier.isStatic(f.getModifiers());
            own += constant ? 0 : 1;
            DUE.that(f + " is final", !constant || Modifier.isFinal(f.getModifiers()));
        }
        DUE.that(c + " has at most twenty fields: " + own, own <= 20);
        for (Method m : c.getDeclaredMethods()) {
            DUE.that(m + " takes at most seven parameters", m.getParameterCount() <= 7);
        }
    }

    private static void lines(String source) {
        String code = source.replaceAll("(?s)/\\*.*?\\*/", "").replaceAll("//[^\n]*", "").replaceAll("\"[^\"\n]*\"", "\"\"");
        for (String word : List.of("throw", "throws", "try", "catch", "synchronized", "assert", "float", "double", "lambda",
            "protected", "package", "hashCode", "toString", "Object", "instanceof")) {
            DUE.that("no " + word, !Pattern.compile("\\b" + word + "\\b").matcher(code).find());
        }
        DUE.that("no arrow and no method reference", !code.contains("->") && !code.contains("::"));
        DUE.that("no text is joined by +", !code.contains("\"\" +") && !code.contains("+ \"\""));
        Matcher m = Pattern.compile("import ([a-zA-Z.*]+);").matcher(code);
        while (m.find()) {
            DUE.that("import of " + m.group(1), m.group(1).equals("java.util.Arrays"));
        }
        Matcher lib = Pattern.compile("\\b(Math|Arrays|System|Integer|Long)\\.(\\w+)").matcher(code);
        while (lib.find()) {
            DUE.that(lib.group(), List.of("Math.min", "Math.max", "Math.abs", "Math.floorMod", "Arrays.fill",
                "System.arraycopy", "Integer.bitCount").contains(lib.group()));
        }
        for (int i = 0; i < source.length(); i++) {
            DUE.that("sign " + i + " is plain", source.charAt(i) < 127);
        }
        methods(code);
    }

    /** Lengths of methods, and how deep calls go (a call of the library counts too) where no method is entered twice. */
    private static void methods(String code) {
        Matcher m = Pattern.compile("\n( {4,8})(?:[a-zA-Z\\[\\]]+ )+([a-zA-Z]+)\\([^;{}]*\\) \\{\n(?s:(.*?))\n\\1}").matcher(code);
        Map<String, String> bodies = new HashMap<>();
        while (m.find()) {
            if (!m.group().contains(" class ")) {
                int length = m.group(3).split("\n").length;
                DUE.that(m.group(2) + " has " + length + " lines", length <= 60);
                bodies.merge(m.group(2), m.group(3), (a, b) -> a + b);
            }
        }
        DUE.that("methods were found: " + bodies.size(), bodies.size() > 120);
        for (String name : bodies.keySet()) {
            int deep = deepest(name, bodies, new ArrayDeque<>());
            DUE.that("calls from " + name + " go " + deep + " deep", deep <= 8);
        }
    }

    /** The cycle of sums, products and asks is the one recursion; it counts as one call. */
    private static final List<String> CYCLE = List.of("sum", "product", "one", "opened", "choice", "either", "both", "ask");

    private static int deepest(String name, Map<String, String> bodies, Deque<String> open) {
        DUE.that(name + " is entered twice: " + open, !open.contains(name) || CYCLE.contains(name));
        if (open.contains(name)) {
            return 0;
        }
        open.addLast(name);
        int most = Pattern.compile("\\b(Math|Arrays|System|Integer)\\.").matcher(bodies.get(name)).find() ? 1 : 0;
        Matcher m = Pattern.compile("\\b([a-zA-Z]+)\\(").matcher(bodies.get(name));
        while (m.find()) {
            if (bodies.containsKey(m.group(1))) {
                most = Math.max(most, deepest(m.group(1), bodies, open));
            }
        }
        open.removeLast();
        return most + (CYCLE.contains(name) && open.stream().anyMatch(CYCLE::contains) ? 0 : 1);
    }
}
