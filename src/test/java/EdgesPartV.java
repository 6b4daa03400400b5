import java.util.Arrays;

/** Edges that part V names: nights, the image. */
final class EdgesPartV {
    private static final int NONE = Due.NONE;

    static void partV_seeds0To9999(Due d) {
        for (int seed : new int[] {0, 1, 9998, 9999}) {
            StairRods x = new StairRods();
            int first = seed * 2 + 293;
            d.is("nights(" + seed + ", 1)", x.nights(seed, 1), first % 6 >= 4 ? 1 : 0);
            d.is("is(1)", x.is(1), first % 6 >= 4 ? Houses.after(Houses.after(first)) : Houses.after(first));
        }
        StairRods x = new StairRods();
        d.is("nights(-1, 1)", x.nights(-1, 1), NONE);
        d.is("nights(10000, 1)", x.nights(10000, 1), NONE);
        d.is("is(1)", x.is(1), 293);
    }

    static void partV_times1To40(Due d) {
        StairRods x = new StairRods();
        d.is("nights(0, 0)", x.nights(0, 0), NONE);
        d.is("nights(0, 41)", x.nights(0, 41), NONE);
        d.is("about(3)", x.about(3), 0);
        d.that("nights(0, 40)", x.nights(0, 40) >= 1);
        d.is("about(3)", x.about(3), 1);
    }

    static void partV_xIsOfTheSeedAlone(Due d) {
        StairRods x = new StairRods();
        x.hour(7);
        x.nights(2, 1);
        d.is("is(1)", x.is(1), Houses.after(297));
    }

    static void partV_aLodgerTreadsUpIfItCan(Due d) {
        // SEED 77: 447 mod 6 is 3, the CUP of 3; then 3306 mod 6 is 0: 3306 mod how many treads 1 up
        for (int lodgers = 1; lodgers <= 6; lodgers++) {
            StairRods x = Houses.of(Arrays.copyOf(new int[] {1, 1, 1, 1, 1, 1}, lodgers));
            x.nights(77, 2);
            for (int who = 0; who < lodgers; who++) {
                d.is("of(" + who + ", 2) of " + lodgers, x.of(who, 2), who == 3306 % lodgers ? 1 : 0);
            }
        }
        StairRods x = Houses.up(Houses.of(1), 12);
        x.nights(77, 2);
        d.is("in 12 it can't", x.of(0, 2), 12);
        d.is("of(0, 3)", x.of(0, 3), 4);
        StairRods y = Houses.up(Houses.of(1), 11);
        y.nights(77, 2);
        d.is("in 11 it can", y.of(0, 2), 12);
    }

    static void partV_aLodgerTreadsDownIfItCan(Due d) {
        // SEED 1: 295 mod 6 is 1: 295 mod how many treads 2 down
        for (int place = 0; place <= 3; place++) {
            StairRods x = Houses.up(Houses.of(1), place);
            int trod = x.of(0, 3);
            x.nights(1, 1);
            d.is("from " + place, x.of(0, 2), place < 2 ? place : place - 2);
            d.is("of(0, 3)", x.of(0, 3), place < 2 ? trod : trod + 1);
        }
        StairRods x = Houses.of(1, 1, 1, 1, 1, 1);
        x.tread(295 % 6, true, 3);
        x.nights(1, 1);
        d.is("295 mod 6", x.of(1, 2), 1);
    }

    static void partV_treadsOfNightsAreHeard(Due d) {
        StairRods x = Houses.of(9);
        x.nights(77, 2);
        d.is("book(NONE, 0)", x.book(NONE, 0), 1);
        d.is("book(0, 1)", x.book(0, 1), 1);
        d.is("book(0, 2)", x.book(0, 2), 9);
    }

    static void partV_aCupIsTakenDownIfItCan(Due d) {
        // 1 and x / 6 mod 12, x being SEED * 2 + 293: SEEDS 35 (363) and 32 (357) are of STAIRS 1 and 12
        int[][] seeds = {{35, 1}, {2, 2}, {32, 12}};
        for (int[] seed : seeds) {
            StairRods x = new StairRods();
            x.nights(seed[0], 1);
            d.is("is(3)", x.is(3), 8190 - (1 << seed[1]));
            x.nights(seed[0], 1);
            d.is("it is down already", x.is(3), 8190 - (1 << seed[1]));
        }
    }

    static void partV_aCupIsHungIfItCan(Due d) {
        // x 381 takes the CUP of STAIR 4 down, then 28070 hangs that of 11; 369, then 21386: STAIRS 2 and 1; 339, 4676: 9 and 12
        int[][] seeds = {{44, 4, 11}, {38, 2, 1}, {23, 9, 12}};
        for (int[] seed : seeds) {
            StairRods x = new StairRods();
            x.hang(seed[2], false);
            x.nights(seed[0], 2);
            d.is("is(3)", x.is(3), 8190 - (1 << seed[1]));
            x.nights(seed[0], 2);
            d.is("it is hung already", x.is(3), 8190 - (1 << seed[1]));
        }
    }

    static void partV_anHourIfItCanPass(Due d) {
        // SEED 131: 555 takes the CUP of 9 down, then 1936 mod 6 is 4: an HOUR; SEED 0: 293 mod 6 is 5: an HOUR
        StairRods x = Houses.atHour(9998);
        d.is("nights(131, 2)", x.nights(131, 2), 9999);
        d.is("nights(131, 2) at 9999", x.nights(131, 2), 9999);
        d.is("no draw for LATE", x.is(1), Houses.after(1936));
        StairRods y = Houses.atHour(9998);
        d.is("nights(0, 1)", y.nights(0, 1), 9999);
        d.is("nights(0, 1) at 9999", y.nights(0, 1), 9999);
        d.is("no draw for LATE", y.is(1), Houses.after(293));
    }

    static void partV_whatThereAreNoneOfIsnt(Due d) {
        StairRods x = new StairRods();
        d.is("nobody treads down", x.nights(1, 1), 0);
        d.is("is(1)", x.is(1), Houses.after(295));
        d.is("nobody treads up", x.nights(77, 2), 0);
        d.is("is(1)", x.is(1), Houses.after(3306));
        d.is("book(NONE, 0)", x.book(NONE, 0), 0);
    }

    static void partV_nightsAreOneStep(Due d) {
        StairRods x = Houses.of(9, 9);
        String before = Seen.all(x);
        x.nights(9999, 40);
        d.is("about(3)", x.about(3), 1);
        x.undo();
        d.same("all is taken back", before, Seen.all(x));
    }

    static void partV_the31stNights(Due d) {
        StairRods x = new StairRods();
        for (int i = 0; i < 31; i++) {
            x.nights(0, 1);
        }
        d.is("is(0)", x.is(0), 31);
        d.is("about(3)", x.about(3), 30);
        for (int left = 29; left >= 0; left--) {
            d.is("undo()", x.undo(), left);
        }
        d.is("is(0)", x.is(0), 1);
        d.is("undo()", x.undo(), NONE);
    }

    // ---- AN IMAGE

    private interface Doing {
        void on(StairRods x);
    }

    /** Behind an image, something is done; back again all is as it was. */
    private static void kept(Due d, String what, Doing doing) {
        StairRods x = Houses.ruled("ticks 9;", 3, 4);
        x.hour(4);
        x.hang(5, false);
        x.print(0, 6);
        x.sound(0, 0, 3);
        x.listen(0);
        x.code(1);
        x.said(0, 1, 9);
        x.image();
        String image = Seen.ofImage(x);
        doing.on(x);
        d.that(what + " changes something", !image.equals(Seen.ofImage(x)));
        x.back();
        d.same("back from " + what, image, Seen.ofImage(x));
    }

    static void partV_allAsItIs(Due d) {
        kept(d, "lodger", x -> x.lodger(1, 1));
        kept(d, "text", x -> x.text());
        kept(d, "by", x -> x.by(NONE));
        kept(d, "tread", x -> x.tread(0, x.of(0, 2) < 6, 1));
        kept(d, "hang", x -> x.hang(5, true));
        kept(d, "hour", x -> x.hour(60));
        kept(d, "nights", x -> x.nights(5, 40));
        kept(d, "undo", x -> x.undo());
        kept(d, "change", x -> {
            x.listen(1);
            x.change(0, 0, 9);
        });
        kept(d, "sound", x -> x.sound(0, 0, 9));
        kept(d, "listen", x -> x.listen(2));
        kept(d, "listen to none", x -> x.listen(NONE));
        kept(d, "another sound", x -> {
            x.listen(NONE);
            x.listen(1);
        });
        kept(d, "code", x -> x.code(2));
        kept(d, "another code", x -> {
            x.code(NONE);
            x.code(22);
        });
        kept(d, "no code", x -> x.code(NONE));
        kept(d, "print", x -> x.print(0, 8));
        kept(d, "heavy", x -> x.heavy(0, 9));
        kept(d, "said", x -> x.said(0, 1, 10));
        kept(d, "nothing said", x -> x.said(NONE, 0, 0));
        kept(d, "something else said", x -> {
            x.said(NONE, 0, 0);
            x.said(1, 2, 3);
        });
    }

    static void partV_changesAreKept(Due d) {
        StairRods x = Houses.heard(0, 0);
        x.change(0, 1, 7);
        x.image();
        x.change(0, 1, 2);
        d.is("weighed()", x.weighed(), 10);
        x.back();
        d.is("weighed()", x.weighed(), 15);
    }

    static void partV_butTheTape(Due d) {
        StairRods x = new StairRods();
        x.feed(1, 2, 3, 4, 5);
        x.image();
        x.feed(1, 2, 3, 4, 5);
        x.back();
        d.is("the tape stays as it is", x.about(7), 40);
        x.end(0);
        x.back();
        d.is("the tape stays empty", x.about(7), 0);
        Due.onTape(x, "hang 1;");
        x.back();
        d.is("its bytes stay", x.text(), 0);
        d.is("played(0)", x.played(0), 0);
    }

    static void partV_butTheLatestFault(Due d) {
        StairRods x = new StairRods();
        Due.text(x, "hang 0;");
        x.image();
        x.text();
        d.is("fault(0)", x.fault(0), 0);
        x.back();
        d.is("fault(0) stays", x.fault(0), 0);
        d.is("fault(1) stays", x.fault(1), NONE);
        Due.text(x, "?");
        x.back();
        d.is("fault(0) stays", x.fault(0), 1);
        d.is("fault(1) stays", x.fault(1), 0);
        StairRods y = new StairRods();
        y.text();
        y.back();
        d.is("a text was read, though the image is ahead of any", y.fault(0), 0);
    }

    static void partV_textsOfTheImageStandAgain(Due d) {
        StairRods x = Houses.ruled("hears 11;");
        x.image();
        for (int round = 0; round < 3; round++) {
            for (int i = 0; i < 4; i++) {
                Due.text(x, "hears " + (20 + round) + ";");
            }
            d.is("about(1)", x.about(1), 4);
            x.by(3);
            d.is("hears(1)", x.hears(1), 20 + round);
            x.back();
            d.is("about(1)", x.about(1), 1);
            d.is("about(2)", x.about(2), 0);
            d.is("hears(1)", x.hears(1), 11);
        }
    }
}
