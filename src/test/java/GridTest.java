import java.lang.reflect.InvocationTargetException;
import java.lang.reflect.Method;
import java.util.Arrays;
import java.util.HashMap;
import java.util.Map;

/**
 * Every call with every row of some arguments (the edges of all ranges, the smallest and the largest int), in several
 * states (new, small, full, in the last hour ..): it never throws, and it answers as the Oracle does.
 */
public final class GridTest {
    private static final int[] FEW = {Due.LOW, -2, -1, 0, 1, 2, 3, 12, 13, Due.HIGH};
    private static final int[] MANY = {Due.LOW, Due.LOW + 1, -65536, -33, -32, -13, -3, -2, -1, 0, 1, 2, 3, 4, 5, 6, 7, 8, 9, 10, 11,
        12, 13, 14, 20, 21, 22, 29, 30, 31, 32, 33, 40, 41, 59, 60, 61, 64, 98, 99, 100, 255, 256, 299, 300, 301, 4095, 4096, 8188,
        8190, 8191, 8192, 9998, 9999, 10000, 22221, 22222, 22223, 65535, 65536, 11111111, 22222222, 99999999, 100000000,
        Due.HIGH - 1, Due.HIGH};
    /** An object is for 512 calls; what a state and a look at it need is some 250. */
    private static final int CALLS_OF_ONE = 250;

    private final Map<String, Method> due = new HashMap<>();
    private final Due d = new Due();
    private StairRods x;
    private Oracle o;
    private int state;
    private int calls;

    public static void main(String[] args) throws Exception {
        GridTest test = new GridTest();
        for (Method m : Oracle.class.getDeclaredMethods()) {
            test.due.put(m.getName() + Arrays.toString(m.getParameterTypes()), m);
        }
        for (test.state = 0; test.state <= LAST_STATE; test.state++) {
            test.d.test("GridTest, state " + test.state);
            for (Method m : StairRods.class.getDeclaredMethods()) {
                if (java.lang.reflect.Modifier.isPublic(m.getModifiers())) {
                    test.fresh();
                    test.everyRow(m, new Object[m.getParameterCount()], 0);
                    test.look();
                }
            }
        }
        test.d.finish("GridTest");
    }

    private void everyRow(Method m, Object[] row, int at) throws Exception {
        if (at == row.length) {
            if (calls >= CALLS_OF_ONE) {
                look();
                fresh();
            }
            calls++;
            ask(m, row);
            return;
        }
        if (m.getParameterTypes()[at] == boolean.class) {
            for (boolean value : new boolean[] {false, true}) {
                row[at] = value;
                everyRow(m, row, at + 1);
            }
            return;
        }
        int[] values = row.length <= 2 ? MANY : row.length == 5 ? new int[] {Due.LOW, 0x3b686f75, Due.HIGH} : FEW;
        for (int value : values) {
            row[at] = value;
            everyRow(m, row, at + 1);
        }
    }

    private void ask(Method m, Object[] row) throws Exception {
        Object want = due.get(m.getName() + Arrays.toString(m.getParameterTypes())).invoke(o, row);
        Object got;
        try {
            got = m.invoke(x, row);
        } catch (InvocationTargetException thrown) {
            got = thrown.getCause();
        }
        d.is(m.getName() + Arrays.toString(row) + " " + got + " " + want, got.equals(want), true);
    }

    /** Both have come to the same state. */
    private void look() {
        for (int what = 0; what <= 7; what++) {
            d.is("about(" + what + ")", x.about(what), o.about(what));
        }
        for (int what = 0; what <= 3; what++) {
            d.is("is(" + what + ")", x.is(what), o.is(what));
        }
        for (int who = 0; who <= 5; who++) {
            for (int what = 2; what <= 4; what++) {
                d.is("of(" + who + ", " + what + ")", x.of(who, what), o.of(who, what));
            }
        }
        d.is("ledger(NONE)", x.ledger(-1), o.ledger(-1));
        d.is("pause()", x.pause(), o.pause());
        d.is("weighed()", x.weighed(), o.weighed());
        d.is("cheapest(6)", x.cheapest(6), o.cheapest(6));
        d.is("whose()", x.whose(), o.whose());
        d.is("doubt()", x.doubt(), o.doubt());
    }

    // ---- states: what is told to both

    private static final int LAST_STATE = 6;

    private void fresh() {
        x = new StairRods();
        o = new Oracle();
        calls = 0;
        if (state == 0) {
            return;
        }
        if (state == 5) {
            last();
        }
        int lodgers = new int[] {0, 1, 2, 6, 6, 3, 6}[state];
        for (int i = 0; i < lodgers; i++) {
            x.lodger(9 - i, 12 - i);
            o.lodger(9 - i, 12 - i);
            x.print(i, 2 << 2 * i);
            o.print(i, 2 << 2 * i);
        }
        if (state >= 2) {
            text("ticks weight+stair-trod*way;hears near stair of 4*3;up 3 by 0;hour 2;unhang 4;");
            x.by(0);
            o.by(0);
        }
        if (state >= 3) {
            fill();
        }
        if (state >= 4) {
            text("hears 1;");
            text("");
            x.played(0);
            o.played(0);
            x.image();
            o.image();
        }
    }

    private void text(String signs) {
        Due.onTape(x, signs);
        o.tape.setLength(0);
        o.tape.append(signs);
        x.text();
        o.text();
    }

    /** The HOUR is 9998, or 9999 if nobody could tread. */
    private void last() {
        text("hour 60;".repeat(24));
        for (int i = 0; i < 6; i++) {
            x.played(0);
            o.played(0);
        }
        for (int i = 0; i < 22; i++) {
            x.hour(60);
            o.hour(60);
        }
        x.hour(38);
        o.hour(38);
    }

    private void fill() {
        for (int i = 0; i < 6; i++) {
            x.listen(i % 3);
            o.listen(i % 3);
            x.change(i % 3, i / 2, i);
            o.change(i % 3, i / 2, i);
            x.sound(i / 2, i % 3, 9 - i);
            o.sound(i / 2, i % 3, 9 - i);
            x.heavy(i, 10 * i + 1);
            o.heavy(i, 10 * i + 1);
        }
        for (int word : new int[] {12, 1, 221, 22222, 122}) {
            x.code(word);
            o.code(word);
        }
        for (int i = 0; i < (state == 6 ? 7 : 8); i++) {
            x.said(i % 3, i + 1, x.ticks(i % 3, i + 1, true));
            o.said(i % 3, i + 1, o.ticks(i % 3, i + 1, true));
        }
        x.hour(1);
        o.hour(1);
        x.undo();
        o.undo();
        for (int i = 0; i < 33 && state != 5; i++) {
            x.tread(i % 6, i % 12 < 6, 2);
            o.tread(i % 6, i % 12 < 6, 2);
        }
        Due.onTape(x, "hang 1;" + " ".repeat(state == 6 ? 273 : 200));
        o.tape.setLength(0);
        o.tape.append("hang 1;" + " ".repeat(state == 6 ? 273 : 200));
    }
}
