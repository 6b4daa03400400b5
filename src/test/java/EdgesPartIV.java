/** Edges that part IV names: codes, prints, the cheapest code, whose law, and sums. */
final class EdgesPartIV {
    private static final int NONE = Due.NONE;

    static void partIV_5CodeWordsAtMost(Due d) {
        StairRods x = Houses.coded(1, 2, 11, 12);
        d.is("the fifth", x.code(21), 5);
        d.is("the sixth", x.code(22), -2);
        d.is("room(false)", x.room(false), 7);
    }

    static void partIV_wordsAreUnlike(Due d) {
        StairRods x = Houses.coded(12);
        d.is("12 again", x.code(12), -2);
        d.is("21", x.code(21), 2);
        d.is("21 again", x.code(21), -2);
        d.is("about(5)", x.about(5), 2);
    }

    static void partIV_aMessageIs1To99999999(Due d) {
        StairRods x = Houses.coded(1, 2);
        d.is("reads(0)", x.reads(0), NONE);
        d.is("reads(1)", x.reads(1), 1);
        d.is("reads(22222222)", x.reads(22222222), 1);
        d.is("reads(99999999)", x.reads(99999999), 0);
        d.is("reads(100000000)", x.reads(100000000), NONE);
        d.is("reads(111111111)", x.reads(111111111), NONE);
    }

    static void partIV_aDoubtHasTwoWaysOfOneMessage(Due d) {
        // a word is itself and no two ways of it
        for (int word : new int[] {1, 2, 12, 22222}) {
            d.is("doubt() of " + word, Houses.coded(word).doubt(), NONE);
        }
        // the shortest is as long as a word
        d.is("11111 is 1 1 1 1 1", Houses.coded(11111, 1).doubt(), 5);
        d.is("11111 is 11 111", Houses.coded(11111, 11, 111).doubt(), 5);
    }

    static void partIV_unreadOf8DigitsAtMost(Due d) {
        // where 1 and 2 are words all messages can be read; else one digit is enough
        d.is("1 2", Houses.coded(1, 2).unread(), NONE);
        d.is("2 12 112 111 22", Houses.coded(2, 12, 112, 111, 22).unread(), 1);
        d.is("1 22 221 222 21", Houses.coded(1, 22, 221, 222, 21).unread(), 2);
    }

    static void partIV_room0By1Without(Due d) {
        StairRods x = Houses.coded(1, 2);
        x.code(NONE);
        d.is("room(false)", x.room(false), 0);
        d.is("room(true)", x.room(true), 1);
    }

    static void partIV_printsBit0Aside(Due d) {
        StairRods x = Houses.of(1);
        d.is("print(0, 1)", x.print(0, 1), false);
        d.is("print(0, 2)", x.print(0, 2), true);
        d.is("print(0, 3)", x.print(0, 3), false);
        d.is("print(0, 4096)", x.print(0, 4096), true);
        d.is("print(0, 8192)", x.print(0, 8192), false);
        d.is("fits(1, 12)", x.fits(1, 12), NONE);
        d.is("fits(8192, 12)", x.fits(8192, 12), NONE);
    }

    static void partIV_printsAtFirstNone(Due d) {
        StairRods x = Houses.of(1, 1);
        d.is("of(0, 4)", x.of(0, 4), 0);
        d.is("enough(true): both are alike", x.enough(true), NONE);
        d.is("fits(0, 0)", x.fits(0, 0), 3);
        d.is("alone(0)", x.alone(0), 0);
    }

    static void partIV_enoughForSix(Due d) {
        d.is("six of three stairs", Houses.printed(0, 2, 4, 6, 8, 10).enough(true), 3);
        d.is("six of five", Houses.printed(2, 4, 8, 16, 32, 64).enough(true), 5);
        d.is("no way for six", Houses.printed(2, 4, 8, 16, 32, 16).enough(true), NONE);
    }

    static void partIV_shared0WithoutLodgers(Due d) {
        d.is("shared()", new StairRods().shared(), 0);
        d.is("one with all", Houses.printed(8190).shared(), 8190);
    }

    static void partIV_whichNoneIfLodgersAreNoneOrOne(Due d) {
        d.is("none", new StairRods().which(), NONE);
        d.is("one", Houses.printed(4).which(), NONE);
        d.is("two", Houses.printed(4, 0).which(), 2);
    }

    static void partIV_cheapestN1Is0(Due d) {
        StairRods x = new StairRods();
        x.heavy(0, 99);
        d.is("cheapest(1)", x.cheapest(1), 0);
        d.is("cheapest(2)", x.cheapest(2), 100);
    }

    static void partIV_heavy1To99AtFirst1(Due d) {
        StairRods x = new StairRods();
        d.is("cheapest(2)", x.cheapest(2), 2);
        d.is("heavy(0, 0)", x.heavy(0, 0), false);
        d.is("heavy(0, 100)", x.heavy(0, 100), false);
        d.is("cheapest(2)", x.cheapest(2), 2);
        d.is("heavy(0, 99)", x.heavy(0, 99), true);
        d.is("heavy(1, 99)", x.heavy(1, 99), true);
        d.is("cheapest(2)", x.cheapest(2), 198);
    }

    static void partIV_8SaidAtMost(Due d) {
        StairRods x = Houses.of(1);
        for (int i = 1; i <= 8; i++) {
            d.is("said", x.said(0, 12, 0), i);
        }
        d.is("the ninth", x.said(0, 12, 0), -2);
        d.is("about(6)", x.about(6), 8);
    }

    static void partIV_whoseAsNow(Due d) {
        StairRods x = Houses.of(1);
        Due.text(x, "ticks trod+hour+late;");
        x.said(0, 1, 0);
        d.is("whose()", x.whose(), 1);
        x.tread(0, true, 1);
        d.is("it trod once", x.whose(), 0);
        x.undo();
        d.is("whose()", x.whose(), 1);
        x.hour(1);
        d.is("an hour later", x.whose(), 0);
    }

    static void partIV_highestAbove0(Due d) {
        StairRods x = Houses.of(1, 1);
        d.is("in the hall", x.highest(), NONE);
        x.tread(1, true, 1);
        d.is("on stair 1", x.highest(), 1);
    }

    static void partIV_restlessAbove0(Due d) {
        StairRods x = Houses.of(1, 1);
        d.is("none trod", x.restless(), NONE);
        x.tread(1, true, 1);
        d.is("once", x.restless(), 1);
    }

    static void partIV_restlessAt9999(Due d) {
        StairRods x = Houses.trodden(9998);
        x.lodger(1, 1);
        x.tread(1, true, 1);
        d.is("9998 by 1", x.restless(), 0);
        x.tread(0, true, 1);
        x.tread(0, true, 1);
        d.is("9999 by 1", x.restless(), 0);
        d.is("of(0, 3)", x.of(0, 3), 9999);
    }

    static void partIV_pauseNoneIfNotTwo(Due d) {
        StairRods x = Houses.of(8);
        d.is("no line", x.pause(), NONE);
        x.tread(0, true, 1);
        d.is("one line", x.pause(), NONE);
        x.tread(0, true, 1);
        d.is("two lines", x.pause(), 0);
    }

    static void partIV_byTheBookNoneOfAll(Due d) {
        StairRods x = Houses.of(8);
        d.is("ledger(NONE) of no line", x.ledger(NONE), 0);
        x.tread(0, true, 1);
        x.tread(0, true, 3);
        d.is("ledger(NONE)", x.ledger(NONE), 16);
        d.is("ledger(1)", x.ledger(1), 8);
        d.is("ledger(4)", x.ledger(4), 8);
        d.is("ledger(-2)", x.ledger(-2), -2);
    }
}
