/** What the tests of the project share: counting wrong answers, and putting a text on the tape. */
final class Due {
    private int wrong = 0;
    private int asked = 0;
    private String promise = "";

    void promise(int number, String name) {
        promise = "promise " + number + " (" + name + ")";
    }

    void is(String call, long got, long want) {
        asked++;
        if (got != want) {
            wrong++;
            System.out.println(promise + ": " + call + " answered " + got + ", due is " + want);
        }
    }

    void is(String call, boolean got, boolean want) {
        is(call, got ? 1 : 0, want ? 1 : 0);
    }

    void that(String what, boolean holds) {
        is(what, holds, true);
    }

    void finish(String name) {
        System.out.println(name + ": " + asked + " answers, " + wrong + " of them wrong");
        if (wrong != 0) {
            System.exit(1);
        }
    }

    /** Puts these signs, and nothing else, on the tape. */
    static void onTape(StairRods x, String signs) {
        x.end(0);
        int[] four = new int[5];
        for (int from = 0; from < signs.length(); from += 20) {
            for (int k = 0; k < 5; k++) {
                four[k] = 0;
                for (int b = 0; b < 4; b++) {
                    int at = from + 4 * k + b;
                    four[k] = four[k] << 8 | (at < signs.length() ? signs.charAt(at) & 255 : 0);
                }
            }
            x.feed(four[0], four[1], four[2], four[3], four[4]);
        }
        x.end(signs.length());
    }

    static int text(StairRods x, String signs) {
        onTape(x, signs);
        return x.text();
    }

    /** FAULT * 1000 + its place; NONE if there was none. */
    static int faultOf(String signs) {
        StairRods x = new StairRods();
        int answer = text(x, signs);
        if (answer == 0 && x.fault(0) == 0 && x.fault(1) == -1) {
            return -1;
        }
        return answer == -1 ? x.fault(0) * 1000 + x.fault(1) : -99;
    }

    /** What ticks says of LODGER 0 (WEIGHT 5, FLOOR 7) on a STAIR, in a new house. */
    static int ticksBy(String sum, int stair, boolean up) {
        StairRods x = new StairRods();
        x.lodger(5, 7);
        text(x, "ticks " + sum + ";");
        return x.by(0) ? x.ticks(0, stair, up) : -99;
    }

    static String repeated(String part, int times) {
        return part.repeat(times);
    }
}
