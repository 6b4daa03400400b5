import java.lang.reflect.Method;
import java.util.ArrayList;
import java.util.Arrays;
import java.util.HashMap;
import java.util.List;
import java.util.Map;
import java.util.Random;

/** Long runs of calls by chance (the same ones each time): the class and the Oracle must answer alike. */
public final class OracleTest {
    /** Calls with the ranges of their arguments (b: a boolean, w: a word of 1 and 2, s: a set of stairs, t: bytes). */
    private static final String[] CALLS = {
        "lodger 1-9 1-12", "feed t t t t t", "end 0-300", "text", "fault 0-1", "by 0-3", "tread 0-5 b 1-3", "hang 1-12 b",
        "hour 1-60", "played 0-3", "nights 0-9999 1-40", "undo", "of 0-5 0-4", "ticks 0-5 1-12 b", "hears 1-12", "is 0-3",
        "book 0-29 0-2", "foretold 1-60 0-5 0-1", "quiet 0-5 0-12 0-12 -1-6", "ways 0-12 0-12", "unheard 0-5 0-12 0-12",
        "waysBy 0-12 0-12 0-12", "loudest 0-5", "heardOn 0-5 b", "cupRow", "change 0-2 0-2 0-9", "sound 0-2 0-2 0-9",
        "listen 0-2", "weighed", "mood 0-5 0-2 b", "moods 0-5", "likeliest 0-5", "next 0-2 b", "code w", "clear", "doubt",
        "free", "reads w", "unread", "room b", "print 0-5 s", "enough b", "fits s 0-12", "alone 0-5", "shared", "which",
        "heavy 0-5 1-99", "cheapest 1-6", "said 0-5 1-12 0-99", "whose", "highest", "restless", "home", "doubles", "pause",
        "ledger 1-12", "image", "back", "about 0-7"};
    /** Each theme makes its calls twelve times likelier, so that some runs go far into one part of the document. */
    private static final String[] THEMES = {
        "", "tread hang hour undo nights book pause ledger", "ticks hears tread by foretold quiet heardOn loudest unheard",
        "listen change sound mood moods likeliest next weighed", "code clear doubt free reads unread room",
        "print enough fits alone shared which heavy cheapest said whose", "image back undo tread nights about", "played hour"};

    private final Random random;
    private final TextMaker texts;
    private final Map<String, Method> mine = new HashMap<>();
    private final Map<String, Method> due = new HashMap<>();
    private final List<String> told = new ArrayList<>();

    private OracleTest(long seed) {
        random = new Random(seed);
        texts = new TextMaker(random);
        for (Method m : StairRods.class.getDeclaredMethods()) {
            mine.put(m.getName(), m);
        }
        for (Method m : Oracle.class.getDeclaredMethods()) {
            if (!m.isSynthetic() && mine.containsKey(m.getName())
                && Arrays.equals(m.getParameterTypes(), mine.get(m.getName()).getParameterTypes())) {
                due.put(m.getName(), m);
            }
        }
    }

    public static void main(String[] args) throws Exception {
        int runs = args.length > 0 ? Integer.parseInt(args[0]) : 1200;
        long calls = 0;
        for (int run = 0; run < runs; run++) {
            calls += new OracleTest(run).run(run);
        }
        System.out.println("OracleTest: " + runs + " runs, " + calls + " calls, all alike");
    }

    private int run(int run) throws Exception {
        StairRods x = new StairRods();
        Oracle o = new Oracle();
        List<String> theme = List.of(THEMES[run % THEMES.length].split(" "));
        int wild = random.nextInt(3) == 0 ? 4 : 40;
        int calls = settle(x, o, run);
        while (calls < 512) {
            if (random.nextInt(40) == 0) {
                calls += tell(x, o, texts.text());
                ask(x, o, "fault", 0);
                ask(x, o, "fault", 1);
                ask(x, o, "about", 7);
                continue;
            }
            String[] call = CALLS[random.nextInt(CALLS.length)].split(" ");
            if (!THEMES[run % THEMES.length].isEmpty() && !theme.contains(call[0]) && random.nextInt(12) != 0) {
                continue;
            }
            if (call[0].equals("back") && random.nextInt(4) != 0) {
                continue;
            }
            if (call[0].equals("feed") && random.nextInt(4) != 0 || call[0].equals("text") && random.nextInt(8) != 0) {
                continue;
            }
            Object[] args = new Object[call.length - 1];
            for (int i = 0; i < args.length; i++) {
                args[i] = argument(call[i + 1], wild);
            }
            ask(x, o, call[0], args);
            calls++;
        }
        return calls;
    }

    /** Most runs begin with some lodgers, some with a law, a few of them in the last hours. */
    private int settle(StairRods x, Oracle o, int run) throws Exception {
        int calls = 0;
        int lodgers = random.nextInt(4) == 0 ? 0 : random.nextInt(7);
        for (int i = 0; i < lodgers; i++) {
            ask(x, o, "lodger", 1 + random.nextInt(9), 1 + random.nextInt(12));
            calls++;
        }
        if (run % 16 == 9) {
            calls += tell(x, o, "hour 60;".repeat(24));
            int plays = 6 + random.nextInt(2);
            for (int i = 0; i < plays; i++) {
                ask(x, o, "played", 0);
                calls++;
            }
        }
        for (int i = 0; i < 2 && random.nextInt(3) != 0; i++) {
            calls += tell(x, o, texts.text());
            ask(x, o, "by", o.about(1) - 1);
            calls++;
        }
        return calls;
    }

    private int tell(StairRods x, Oracle o, String s) throws Exception {
        ask(x, o, "end", 0);
        for (int from = 0; from < s.length(); from += 20) {
            ask(x, o, "feed", fives(s, from));
        }
        ask(x, o, "end", s.length());
        ask(x, o, "text");
        return s.length() / 20 + 4;
    }

    private static Object[] fives(String s, int from) {
        Object[] row = new Object[5];
        for (int k = 0; k < 5; k++) {
            int four = 0;
            for (int b = 0; b < 4; b++) {
                int at = from + 4 * k + b;
                four = four << 8 | (at < s.length() ? s.charAt(at) : 0);
            }
            row[k] = four;
        }
        return row;
    }

    private Object argument(String range, int wild) {
        if (range.equals("b")) {
            return random.nextBoolean();
        }
        if (random.nextInt(wild) == 0) {
            int[] odd = {-1, -1, -1, -2, 0, 1, 3, 6, 13, 61, 100, 10000, 8192, Integer.MAX_VALUE, Integer.MIN_VALUE};
            return random.nextInt(3) == 0 ? random.nextInt() : odd[random.nextInt(odd.length)];
        }
        switch (range) {
            case "t":
                return random.nextInt(8) == 0 ? random.nextInt() : 0x20202020;
            case "w":
                StringBuilder s = new StringBuilder();
                int length = 1 + random.nextInt(random.nextInt(4) == 0 ? 8 : 4);
                for (int i = 0; i < length; i++) {
                    s.append(random.nextInt(3) == 0 ? '1' : '2');
                }
                return Integer.parseInt(s.toString());
            case "s":
                return random.nextInt(4096) * 2 & (random.nextBoolean() ? 62 : 8190);
            default:
                int dash = range.indexOf('-', 1);
                int low = Integer.parseInt(range.substring(0, dash));
                int high = Integer.parseInt(range.substring(dash + 1));
                int edge = random.nextInt(12);
                return edge == 0 ? low : edge == 1 ? high : low + random.nextInt(high - low + 1);
        }
    }

    private void ask(StairRods x, Oracle o, String name, Object... args) throws Exception {
        told.add(name + Arrays.toString(args));
        Object got = mine.get(name).invoke(x, args);
        Object want = due.get(name).invoke(o, args);
        if (!got.equals(want)) {
            System.out.println("the last calls: " + told.subList(Math.max(0, told.size() - 40), told.size()));
            System.out.println(name + Arrays.toString(args) + " answered " + got + ", the Oracle " + want);
            System.exit(1);
        }
    }
}
