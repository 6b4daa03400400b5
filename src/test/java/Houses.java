/** Houses in the states that the tests of edges begin with. */
final class Houses {
    /** LODGERS of these WEIGHTS, on the FLOORS 1, 2, .. */
    static StairRods of(int... weights) {
        StairRods x = new StairRods();
        for (int i = 0; i < weights.length; i++) {
            need(x.lodger(weights[i], i + 1) == i, "a lodger");
        }
        return x;
    }

    /** The same, with this text as THE TEXT. */
    static StairRods ruled(String text, int... weights) {
        StairRods x = of(weights);
        need(Due.text(x, text) == 0 && x.by(0), "the text " + text);
        return x;
    }

    /** Nobody there, at an HOUR; it takes some 170 calls at most. */
    static StairRods atHour(int hour) {
        return untilHour(new StairRods(), hour);
    }

    static StairRods untilHour(StairRods x, int hour) {
        int now = x.is(0);
        while (now < hour) {
            int n = Math.min(60, hour - now);
            need(x.hour(n) >= 0, "hours pass");
            now += n;
        }
        return x;
    }

    /** One LODGER of WEIGHT 9 in the hall that trod so often (an even number), without a law; it takes some 440 calls at most. */
    static StairRods trodden(int often) {
        StairRods x = of(9);
        need(Due.text(x, "up 1 by 0;down 1 by 0;".repeat(12)) == 0, "the treads");
        int left = often;
        for (; left >= 24; left -= 24) {
            need(x.played(0) == -1, "treads");
        }
        for (; left >= 2; left -= 2) {
            need(x.tread(0, true, 1) >= 0 && x.tread(0, false, 1) >= 0, "treads");
        }
        return x;
    }

    /** LODGERS of WEIGHT 1 with these PRINTS. */
    static StairRods printed(int... prints) {
        StairRods x = new StairRods();
        for (int i = 0; i < prints.length; i++) {
            need(x.lodger(1, 1) == i && x.print(i, prints[i]), "a print");
        }
        return x;
    }

    /** These CODE WORDS and no others. */
    static StairRods coded(int... words) {
        StairRods x = new StairRods();
        for (int i = 0; i < words.length; i++) {
            need(x.code(words[i]) == i + 1, "a word");
        }
        return x;
    }

    /** These SOUNDS are LISTENED to. */
    static StairRods heard(int... sounds) {
        StairRods x = new StairRods();
        for (int i = 0; i < sounds.length; i++) {
            need(x.listen(sounds[i]) == i + 1, "a sound");
        }
        return x;
    }

    /** All weights of CHANGES and of SOUNDS. */
    static StairRods weigh(StairRods x, int change, int sound) {
        for (int i = 0; i < 9; i++) {
            need(x.change(i / 3, i % 3, change) && x.sound(i / 3, i % 3, sound), "weights");
        }
        return x;
    }

    /** Takes LODGER 0 up from the hall to a PLACE. */
    static StairRods up(StairRods x, int place) {
        while (x.of(0, 2) < place) {
            need(x.tread(0, true, Math.min(3, place - x.of(0, 2))) >= 0, "a tread");
        }
        return x;
    }

    static int after(int x) {
        return (int) ((x * 557L + 431L) % 30763L);
    }

    /**
     * One night that takes a CUP down (not that of the STAIR to be kept) makes X such that in the next HOUR LATE is this
     * (NONE: anything) and LODGER 0 draws this.
     */
    static void setDraw(StairRods x, int late, int draw, int keep) {
        for (int seed = 0; seed <= 9999; seed++) {
            int first = seed * 2 + 293;
            int second = after(first);
            boolean asked = first % 6 == 3 && 1 + first / 6 % 12 != keep;
            if (asked && (late == -1 || second % 10 == late) && after(second) % 4 == draw) {
                x.nights(seed, 1);
                return;
            }
        }
        need(false, "a seed");
    }

    /** What a test begins with must stand; else it would test nothing. */
    private static void need(boolean holds, String what) {
        if (!holds) {
            throw new IllegalStateException("a test can't begin: " + what);
        }
    }
}
