import java.lang.reflect.InvocationTargetException;
import java.lang.reflect.Method;
import java.util.ArrayList;
import java.util.Arrays;
import java.util.Comparator;
import java.util.List;

/**
 * Sentences of the document that name an edge, each with a test of its own: a static method of one of these classes,
 * named by its promise (promise7_..) or by its part (partIV_..). With beginnings of names as arguments those are run alone.
 */
public final class EdgesTest {
    private static final Class<?>[] EDGES = {EdgesPartI.class, EdgesPartII.class, EdgesPartIII.class, EdgesPartIV.class, EdgesPartV.class,
        EdgesHouse.class, EdgesSteps.class, EdgesAsking.class, EdgesWays.class, EdgesMoods.class, EdgesCodes.class,
        EdgesPrints.class, EdgesLaws.class, EdgesSums.class, EdgesImage.class};

    public static void main(String[] args) throws Exception {
        Due due = new Due();
        List<String> names = new ArrayList<>();
        for (Class<?> edges : EDGES) {
            runAll(edges, due, names, args);
        }
        due.test("EdgesTest");
        due.that("there is such a test", !names.isEmpty());
        if (args.length == 0) {
            allHaveTests(due, names);
        }
        System.out.println("EdgesTest: " + names.size() + " tests");
        due.finish("EdgesTest");
    }

    private static void allHaveTests(Due due, List<String> names) {
        for (int promise = 1; promise <= 60; promise++) {
            String begin = "promise" + promise + "_";
            due.that("promise " + promise + " has a test", names.stream().anyMatch(name -> name.startsWith(begin)));
        }
        for (String part : new String[] {"I", "II", "III", "IV", "V"}) {
            due.that("part " + part + " has a test", names.stream().anyMatch(name -> name.startsWith("part" + part + "_")));
        }
    }

    private static boolean isAskedFor(String name, String[] begins) {
        return begins.length == 0 || Arrays.stream(begins).anyMatch(name::startsWith);
    }

    private static void runAll(Class<?> edges, Due due, List<String> names, String[] begins) throws Exception {
        Method[] methods = edges.getDeclaredMethods();
        Arrays.sort(methods, Comparator.comparing(Method::getName));
        for (Method method : methods) {
            if (method.getName().matches("(promise[0-9]+|part[IV]+)_\\w+") && isAskedFor(method.getName(), begins)) {
                int before = due.asked();
                names.add(method.getName());
                due.test(method.getName());
                run(method, due);
                due.that("it asks something", due.asked() > before);
            }
        }
    }

    /** What a test throws is its failure, not the end of the others. */
    private static void run(Method method, Due due) throws Exception {
        try {
            method.invoke(null, due);
        } catch (InvocationTargetException thrown) {
            due.that("no end by " + thrown.getCause(), false);
        }
    }
}
