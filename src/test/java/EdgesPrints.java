import java.util.Arrays;

/** Edges of the promises 42 to 47: print, enough, fits, alone, shared, which. */
final class EdgesPrints {
    private static final int NONE = Due.NONE;
    private static final int LOW = Due.LOW;
    private static final int HIGH = Due.HIGH;
    /** Sets that have bit 0, or one above 12. */
    private static final int[] NO_SETS = {1, 3, 8191, 8192, 8194, 16384, 65536, 65538, 1 << 30, HIGH, HIGH - 1, NONE, -2, LOW, LOW + 2};

    // ---- 42

    static void promise42_stairsAreBits1To12(Due d) {
        StairRods x = Houses.of(1);
        for (int stair = 1; stair <= 12; stair++) {
            d.is("print(0, " + (1 << stair) + ")", x.print(0, 1 << stair), true);
            d.is("of(0, 4)", x.of(0, 4), 1 << stair);
        }
        d.is("print(0, 8190)", x.print(0, 8190), true);
        d.is("of(0, 4)", x.of(0, 4), 8190);
        d.is("print(0, 0)", x.print(0, 0), true);
        d.is("of(0, 4)", x.of(0, 4), 0);
    }

    static void promise42_falseForOtherBits(Due d) {
        StairRods x = Houses.of(1);
        x.print(0, 6);
        d.each("print(0, _)", NO_SETS, set -> x.print(0, set) ? 1 : 0, 0);
        d.is("it stays", x.of(0, 4), 6);
    }

    static void promise42_falseForOtherLodgers(Due d) {
        d.each("print(_, 2) without lodgers", Due.from(-2, 6), who -> new StairRods().print(who, 2) ? 1 : 0, 0);
        StairRods x = Houses.of(1, 1);
        d.each("print(_, 2)", Due.outside(0, 1), who -> x.print(who, 2) ? 1 : 0, 0);
        d.is("print(1, 2)", x.print(1, 2), true);
        d.is("of(0, 4)", x.of(0, 4), 0);
        StairRods full = Houses.of(1, 1, 1, 1, 1, 1);
        d.is("print(5, 4)", full.print(5, 4), true);
        d.is("print(6, 4)", full.print(6, 4), false);
    }

    // ---- 43

    static void promise43_nobodyAndOne(Due d) {
        d.is("nobody: the set", new StairRods().enough(false), 0);
        d.is("nobody: how many", new StairRods().enough(true), 0);
        d.is("one: the set", Houses.printed(8190).enough(false), 0);
        d.is("one: how many", Houses.printed(8190).enough(true), 0);
    }

    static void promise43_noWay(Due d) {
        d.is("two without prints", Houses.printed(0, 0).enough(false), NONE);
        d.is("two without prints", Houses.printed(0, 0).enough(true), NONE);
        d.is("two with all", Houses.printed(8190, 8190).enough(false), NONE);
        d.is("the first and the last of six", Houses.printed(2, 4, 8, 16, 32, 2).enough(true), NONE);
        d.is("the last two of six", Houses.printed(2, 4, 8, 16, 32, 32).enough(false), NONE);
    }

    private static void enough(Due d, int set, int... prints) {
        StairRods x = Houses.printed(prints);
        String name = Arrays.toString(prints);
        d.is("enough(false) of " + name, x.enough(false), set);
        d.is("enough(true) of " + name, x.enough(true), Integer.bitCount(set));
    }

    static void promise43_theFewest(Due d) {
        for (int stair = 1; stair <= 12; stair++) {
            enough(d, 1 << stair, 0, 1 << stair);
            enough(d, 1 << stair, 8190, 8190 - (1 << stair));
        }
        enough(d, 2, 2, 4092);
        enough(d, 4096 + 2048, 0, 2048, 4096, 4096 + 2048);
        enough(d, 4096 + 2048 + 1024 + 512 + 256, 0, 256, 512, 1024, 2048, 4096);
        enough(d, 2 + 4 + 8, 0, 2, 4, 6, 8, 10);
        // though a lower set of three STAIRS is enough, one of two is
        enough(d, 2048 + 4096, 2, 4 + 2048, 8 + 4096, 2048 + 4096);
    }

    static void promise43_ofLikeOnesTheLowestSet(Due d) {
        enough(d, 2, 0, 8190);
        enough(d, 2 + 4, 0, 2 + 8, 4 + 16, 2 + 4 + 8 + 16);
        enough(d, 4 + 8, 0, 4, 8 + 16, 4 + 8 + 16);
        // 1, 2 and 5 are enough (38), so are 2, 3 and 4 (28): the lowest number is that of 2, 3 and 4
        enough(d, 4 + 8 + 16, 58, 46, 48, 10, 6);
    }

    // ---- 44

    static void promise44_errorsAre0To12(Due d) {
        StairRods x = Houses.printed(0, 8190);
        d.is("fits(0, 0)", x.fits(0, 0), 1);
        d.is("fits(0, 11)", x.fits(0, 11), 1);
        d.is("fits(0, 12)", x.fits(0, 12), 3);
        d.is("fits(8190, 0)", x.fits(8190, 0), 2);
        d.is("fits(8190, 12)", x.fits(8190, 12), 3);
        d.each("fits(0, _)", Due.outside(0, 12), err -> x.fits(0, err), NONE);
        d.each("fits(0, _) without lodgers", Due.outside(0, 12), err -> new StairRods().fits(0, err), NONE);
    }

    static void promise44_stairsAreBits1To12(Due d) {
        StairRods x = Houses.printed(0, 2, 4096);
        d.each("fits(_, 12)", NO_SETS, set -> x.fits(set, 12), NONE);
        d.each("fits(_, 0) without lodgers", NO_SETS, set -> new StairRods().fits(set, 0), NONE);
        d.is("fits(2, 0)", x.fits(2, 0), 2);
        d.is("fits(4096, 0)", x.fits(4096, 0), 4);
        d.is("fits(8190, 11)", x.fits(8190, 11), 6);
    }

    static void promise44_inSoManyAtMost(Due d) {
        for (int stairs = 0; stairs <= 12; stairs++) {
            int set = (2 << stairs) - 2;
            StairRods x = Houses.printed(set);
            for (int err = 0; err <= 12; err++) {
                d.is("unlike in " + stairs + ", " + err + " at most", x.fits(0, err), stairs <= err ? 1 : 0);
            }
        }
    }

    static void promise44_nobodyAndAll(Due d) {
        d.is("nobody", new StairRods().fits(6, 12), 0);
        d.is("all six", Houses.printed(6, 6, 6, 6, 6, 6).fits(6, 0), 63);
        d.is("none of six", Houses.printed(6, 6, 6, 6, 6, 6).fits(2, 0), 0);
    }

    // ---- 45

    static void promise45_noneForOtherLodgers(Due d) {
        d.each("alone(_) without lodgers", Due.from(-2, 6), who -> new StairRods().alone(who), NONE);
        StairRods x = Houses.printed(2, 4);
        d.each("alone(_)", Due.outside(0, 1), x::alone, NONE);
        d.is("alone(0)", x.alone(0), 2);
        d.is("alone(1)", x.alone(1), 4);
    }

    static void promise45_oneLodgerIsAlone(Due d) {
        d.is("with all", Houses.printed(8190).alone(0), 8190);
        d.is("with none", Houses.printed(0).alone(0), 0);
    }

    static void promise45_inNoOtherOne(Due d) {
        StairRods x = Houses.printed(2 + 4, 4 + 8, 8 + 16, 0, 4096, 8190 - 2 - 4096);
        int[] due = {2, 0, 0, 0, 4096, 8190 - 2 - 4 - 8 - 16 - 4096};
        for (int who = 0; who < 6; who++) {
            d.is("alone(" + who + ")", x.alone(who), due[who]);
        }
        d.is("like prints", Houses.printed(6, 6).alone(0), 0);
        d.is("the first has it too", Houses.printed(4, 4 + 8).alone(1), 8);
        d.is("the last has it too", Houses.printed(4 + 8, 0, 4).alone(0), 8);
    }

    // ---- 46

    static void promise46_withoutLodgers(Due d) {
        d.is("shared()", new StairRods().shared(), 0);
    }

    static void promise46_oneLodgerSharesAll(Due d) {
        d.is("with all", Houses.printed(8190).shared(), 8190);
        d.is("with none", Houses.printed(0).shared(), 0);
        d.is("without a print told", Houses.of(1).shared(), 0);
    }

    static void promise46_inAllPrints(Due d) {
        d.is("six", Houses.printed(8190, 8190, 8190, 8190, 8190, 8190).shared(), 8190);
        d.is("the last has one only", Houses.printed(8190, 8190, 8190, 8190, 8190, 4096).shared(), 4096);
        d.is("the first has one only", Houses.printed(2, 8190, 8190, 8190, 8190, 8190).shared(), 2);
        d.is("one has none", Houses.printed(8190, 8190, 0).shared(), 0);
        StairRods x = Houses.printed(6);
        x.lodger(1, 1);
        d.is("another one without a print told", x.shared(), 0);
    }

    // ---- 47

    static void promise47_noneIfLodgersAreNoneOrOne(Due d) {
        d.is("nobody", new StairRods().which(), NONE);
        d.is("one", Houses.printed(2).which(), NONE);
        d.is("one with all", Houses.printed(8190).which(), NONE);
        d.is("two", Houses.printed(2, 4).which(), 1);
    }

    static void promise47_ofLikeOnesTheLowest(Due d) {
        d.is("no stair tells apart", Houses.printed(0, 0).which(), 1);
        d.is("no stair tells apart", Houses.printed(8190, 8190, 8190).which(), 1);
        d.is("no stair tells six apart", Houses.printed(0, 0, 0, 0, 0, 0).which(), 1);
        d.is("no stair tells six apart", Houses.printed(6, 6, 6, 6, 6, 6).which(), 1);
        for (int stair = 1; stair <= 12; stair++) {
            d.is("from " + stair + " on", Houses.printed(0, 8192 - (1 << stair)).which(), stair);
        }
    }

    static void promise47_theMostLeftAreFewest(Due d) {
        d.is("three by three, not two by four", Houses.printed(2, 2, 4, 4, 4, 0).which(), 2);
        d.is("five in it, or one", Houses.printed(2, 2, 2, 2, 2, 4).which(), 1);
        d.is("two in it are as good as four", Houses.printed(2 + 4, 2 + 4, 2, 2, 0, 0).which(), 1);
        d.is("the twelfth halves", Houses.printed(2, 4096, 4096, 4096, 0, 0).which(), 12);
    }
}
