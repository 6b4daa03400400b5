import java.util.function.IntToLongFunction;

/** What the tests of the project share: counting wrong answers, and putting a text on the tape. */
final class Due {
    static final int NONE = -1;
    static final int LOW = Integer.MIN_VALUE;
    static final int HIGH = Integer.MAX_VALUE;
    private int wrong = 0;
    private int asked = 0;
    private String promise = "";

    void promise(int number, String name) {
        promise = "promise " + number + " (" + name + ")";
    }

    /** What follows belongs to the test of this name. */
    void test(String name) {
        promise = name;
    }

    int asked() {
        return asked;
    }

    /** Asks once with each of some arguments (put for the _ of the call's name); the same answer is due to all. */
    void each(String call, int[] arguments, IntToLongFunction answer, long want) {
        for (int argument : arguments) {
            is(call.replace("_", String.valueOf(argument)), answer.applyAsLong(argument), want);
        }
    }

    /** Asks once with each of some arguments; the argument itself, and so much more, is due. */
    void eachItself(String call, int from, int to, IntToLongFunction answer, int more) {
        for (int argument = from; argument <= to; argument++) {
            is(call.replace("_", String.valueOf(argument)), answer.applyAsLong(argument), argument + more);
        }
    }

    /** Numbers outside of low .. high: the next ones, the farthest ones, and those that are alike in their lowest bits. */
    static int[] outside(int low, int high) {
        return new int[] {LOW, LOW + 1, LOW + low + 1, low - 65536, low - 2, low - 1, high + 1, high + 2, low + 32 * (high - low + 1),
            low + 65536, HIGH - 1, HIGH};
    }

    /** outside(0, high), but for NONE. */
    static int[] outsideButNone(int high) {
        return new int[] {LOW, LOW + 1, -65536, -3, -2, high + 1, high + 2, 32 * (high + 1), 65536, HIGH - 1, HIGH};
    }

    /** The numbers low .. high. */
    static int[] from(int low, int high) {
        int[] row = new int[high - low + 1];
        for (int i = 0; i < row.length; i++) {
            row[i] = low + i;
        }
        return row;
    }

    void is(String call, long got, long want) {
        asked++;
        if (got != want) {
            wrong++;
            System.out.println(promise + ": " + call + " answered " + got + ", due is " + want);
        }
    }

    void is(String call, boolean got, boolean want) {
        is(call, got ? 1 : 0, want ? 1 : 0);
    }

    void that(String what, boolean holds) {
        is(what, holds, true);
    }

    /** Two lists of answers, a line each (see Seen), are alike. */
    void same(String what, String want, String got) {
        is(what + (want.equals(got) ? "" : ": seen was\n" + want + "and is\n" + got), want.equals(got), true);
    }

    void finish(String name) {
        System.out.println(name + ": " + asked + " answers, " + wrong + " of them wrong");
        if (wrong != 0) {
            System.exit(1);
        }
    }

    /** Puts these signs, and nothing else, on the tape. */
    static void onTape(StairRods x, String signs) {
        x.end(0);
        int[] four = new int[5];
        for (int from = 0; from < signs.length(); from += 20) {
            for (int k = 0; k < 5; k++) {
                four[k] = 0;
                for (int b = 0; b < 4; b++) {
                    int at = from + 4 * k + b;
                    four[k] = four[k] << 8 | (at < signs.length() ? signs.charAt(at) & 255 : 0);
                }
            }
            x.feed(four[0], four[1], four[2], four[3], four[4]);
        }
        x.end(signs.length());
    }

    static int text(StairRods x, String signs) {
        onTape(x, signs);
        return x.text();
    }

    /** FAULT * 1000 + its place; NONE if there was none. */
    static int faultOf(String signs) {
        StairRods x = new StairRods();
        int answer = text(x, signs);
        if (answer == 0 && x.fault(0) == 0 && x.fault(1) == -1) {
            return -1;
        }
        return answer == -1 ? x.fault(0) * 1000 + x.fault(1) : -99;
    }

    /** What ticks says of LODGER 0 (WEIGHT 5, FLOOR 7) on a STAIR, in a new house. */
    static int ticksBy(String sum, int stair, boolean up) {
        StairRods x = new StairRods();
        x.lodger(5, 7);
        text(x, "ticks " + sum + ";");
        return x.by(0) ? x.ticks(0, stair, up) : -99;
    }
}
