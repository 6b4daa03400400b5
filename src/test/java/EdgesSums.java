/** Edges of the promises 52 to 57: highest, restless, home, doubles, pause, ledger. */
final class EdgesSums {
    private static final int NONE = Due.NONE;

    // ---- 52

    static void promise52_none(Due d) {
        d.is("nobody", new StairRods().highest(), NONE);
        d.is("one in the hall", Houses.of(1).highest(), NONE);
        d.is("six in the hall", Houses.of(1, 1, 1, 1, 1, 1).highest(), NONE);
        StairRods x = Houses.of(1, 1);
        x.tread(1, true, 1);
        x.tread(1, false, 1);
        d.is("in the hall again", x.highest(), NONE);
    }

    static void promise52_above0(Due d) {
        for (int who = 0; who < 6; who++) {
            StairRods x = Houses.of(1, 1, 1, 1, 1, 1);
            x.tread(who, true, 1);
            d.is("highest()", x.highest(), who);
        }
        d.is("in 12", Houses.up(Houses.of(1, 1), 12).highest(), 0);
    }

    static void promise52_ofLikeOnesTheLowest(Due d) {
        StairRods x = Houses.of(1, 1, 1);
        x.tread(2, true, 3);
        x.tread(1, true, 3);
        d.is("1 and 2", x.highest(), 1);
        x.tread(0, true, 2);
        d.is("0 is lower", x.highest(), 1);
        x.tread(0, true, 1);
        d.is("0, 1 and 2", x.highest(), 0);
        x.tread(2, true, 1);
        d.is("2 is higher by one", x.highest(), 2);
    }

    // ---- 53

    static void promise53_none(Due d) {
        d.is("nobody", new StairRods().restless(), NONE);
        d.is("none trod", Houses.of(1, 1, 1, 1, 1, 1).restless(), NONE);
        StairRods x = Houses.of(1);
        x.tread(0, true, 1);
        x.undo();
        d.is("taken back", x.restless(), NONE);
    }

    static void promise53_above0(Due d) {
        for (int who = 0; who < 6; who++) {
            StairRods x = Houses.of(1, 1, 1, 1, 1, 1);
            x.tread(who, true, 1);
            d.is("restless()", x.restless(), who);
        }
    }

    static void promise53_ofLikeOnesTheLowest(Due d) {
        StairRods x = Houses.of(1, 1, 1);
        x.tread(2, true, 1);
        x.tread(1, true, 3);
        d.is("1 and 2", x.restless(), 1);
        x.tread(0, true, 1);
        d.is("0, 1 and 2", x.restless(), 0);
        x.tread(2, false, 1);
        d.is("2 once more, though it is in the hall", x.restless(), 2);
    }

    // ---- 54

    static void promise54_nobodyAndAll(Due d) {
        d.is("nobody", new StairRods().home(), 0);
        StairRods x = new StairRods();
        for (int who = 0; who < 6; who++) {
            x.lodger(1, 1);
        }
        d.is("all in the hall", x.home(), 0);
        for (int who = 0; who < 6; who++) {
            x.tread(who, true, 1);
            d.is("the first " + (who + 1), x.home(), (2 << who) - 1);
        }
    }

    static void promise54_floors1And12(Due d) {
        StairRods x = new StairRods();
        x.lodger(1, 12);
        for (int place = 0; place <= 12; place++) {
            d.is("in " + place, Houses.up(x, place).home(), place == 12 ? 1 : 0);
        }
        StairRods y = new StairRods();
        y.lodger(1, 1);
        for (int place = 0; place <= 12; place++) {
            d.is("in " + place, Houses.up(y, place).home(), place == 1 ? 1 : 0);
        }
    }

    // ---- 55

    static void promise55_nobodyAndOne(Due d) {
        d.is("nobody", new StairRods().doubles(), 0);
        d.is("one", Houses.of(1).doubles(), 0);
        d.is("two", Houses.of(1, 1).doubles(), 1);
        d.is("five", Houses.of(1, 1, 1, 1, 1).doubles(), 10);
        d.is("six", Houses.of(1, 1, 1, 1, 1, 1).doubles(), 15);
    }

    static void promise55_allApart(Due d) {
        StairRods x = Houses.of(1, 1, 1, 1, 1, 1);
        int[] due = {10, 6, 3, 1, 0};
        for (int who = 1; who < 6; who++) {
            for (int k = 0; k < who; k++) {
                x.tread(who, true, 1);
            }
            d.is("doubles()", x.doubles(), due[who - 1]);
        }
        x.tread(5, false, 1);
        d.is("two on a stair", x.doubles(), 1);
    }

    // ---- 56

    static void promise56_noneIfNotTwo(Due d) {
        StairRods x = Houses.of(9);
        d.is("no line", x.pause(), NONE);
        x.tread(0, true, 1);
        d.is("one line", x.pause(), NONE);
        x.tread(0, true, 1);
        d.is("two lines", x.pause(), 0);
        x.undo();
        d.is("one line again", x.pause(), NONE);
    }

    /** One tick is heard in each of these HOURS, and no other one. */
    private static StairRods heardAt(int... hours) {
        StairRods x = Houses.of(9);
        Due.text(x, "hears 99;");
        for (int hour : hours) {
            x.by(0);
            Houses.untilHour(x, hour);
            x.by(NONE);
            x.tread(0, x.of(0, 2) < 12, 1);
        }
        return x;
    }

    static void promise56_theMostBetweenTwoLinesOneBehindTheOther(Due d) {
        d.is("in one hour", heardAt(3, 3).pause(), 0);
        d.is("0 1", heardAt(0, 1).pause(), 1);
        d.is("the first is the longest", heardAt(0, 5, 7, 9).pause(), 5);
        d.is("one in the middle is the longest", heardAt(0, 1, 5, 7).pause(), 4);
        d.is("the last is the longest", heardAt(0, 2, 2, 9).pause(), 7);
        d.is("not from the first to the last", heardAt(10, 20, 30).pause(), 10);
    }

    static void promise56_theLongestOfAll(Due d) {
        d.is("from 0 to 9999", heardAt(0, 9999).pause(), 9999);
    }

    static void promise56_aLineThatWentDoesNotCount(Due d) {
        int[] hours = new int[30];
        for (int i = 1; i < 30; i++) {
            hours[i] = 50 + i;
        }
        StairRods x = heardAt(hours);
        d.is("30 lines", x.book(NONE, 0), 30);
        d.is("from 0 to 51", x.pause(), 51);
        x.tread(0, x.of(0, 2) < 12, 1);
        d.is("30 lines", x.book(NONE, 0), 30);
        d.is("the line of HOUR 0 went", x.pause(), 1);
        x.undo();
        d.is("it is there again", x.pause(), 51);
    }

    // ---- 57

    static void promise57_stairsAre1To12(Due d) {
        StairRods x = Houses.of(9);
        for (int stair = 1; stair <= 12; stair++) {
            x.tread(0, true, 1);
        }
        d.each("ledger(_)", Due.from(1, 12), x::ledger, 9);
        d.is("ledger(NONE)", x.ledger(NONE), 108);
        d.each("ledger(_)", Due.outsideButNone(12), x::ledger, -2);
        d.is("ledger(0)", x.ledger(0), -2);
    }

    static void promise57_anEmptyBook(Due d) {
        StairRods x = new StairRods();
        d.each("ledger(_)", Due.from(1, 12), x::ledger, 0);
        d.is("ledger(NONE)", x.ledger(NONE), 0);
        d.is("ledger(0)", x.ledger(0), -2);
        d.is("ledger(13)", x.ledger(13), -2);
        d.is("ledger(-2)", x.ledger(-2), -2);
    }

    static void promise57_aFullBook(Due d) {
        StairRods x = Houses.ruled("ticks 99;", 1);
        x.tread(0, true, 1);
        for (int i = 0; i < 40; i++) {
            x.tread(0, i % 2 == 0, 1);
        }
        d.is("ledger(NONE)", x.ledger(NONE), 30 * 99);
        d.is("ledger(1)", x.ledger(1), 15 * 99);
        d.is("ledger(2)", x.ledger(2), 15 * 99);
        d.is("ledger(3)", x.ledger(3), 0);
    }
}
