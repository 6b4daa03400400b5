/** Edges of the promises 19 to 26: foretold, quiet, ways, unheard, waysBy, loudest, heardOn, cupRow. */
final class EdgesWays {
    private static final int NONE = Due.NONE;

    // ---- 19

    static void promise19_hoursAre1To60(Due d) {
        StairRods x = Houses.of(5);
        for (int n : new int[] {1, 2, 59, 60}) {
            StairRods y = Houses.of(5);
            y.hour(n);
            d.is("foretold(" + n + ", 0, 0)", x.foretold(n, 0, 0), y.of(0, 2));
            d.is("foretold(" + n + ", 0, 1)", x.foretold(n, 0, 1), y.of(0, 3));
        }
        d.each("foretold(_, 0, 0)", Due.outside(1, 60), n -> x.foretold(n, 0, 0), NONE);
        d.each("foretold(_, 0, 1)", Due.outside(1, 60), n -> x.foretold(n, 0, 1), NONE);
    }

    static void promise19_noneForOtherLodgers(Due d) {
        d.each("foretold(1, _, 0) without lodgers", Due.from(-2, 6), who -> new StairRods().foretold(1, who, 0), NONE);
        StairRods x = Houses.of(1, 2, 3, 4, 5, 6);
        StairRods y = Houses.of(1, 2, 3, 4, 5, 6);
        y.hour(60);
        for (int who = 0; who < 6; who++) {
            d.is("foretold(60, " + who + ", 0)", x.foretold(60, who, 0), y.of(who, 2));
            d.is("foretold(60, " + who + ", 1)", x.foretold(60, who, 1), y.of(who, 3));
        }
        d.each("foretold(60, _, 0)", Due.outside(0, 5), who -> x.foretold(60, who, 0), NONE);
    }

    static void promise19_noneForOtherQuestions(Due d) {
        StairRods x = Houses.of(5);
        d.each("foretold(1, 0, _)", Due.outside(0, 1), what -> x.foretold(1, 0, what), NONE);
        d.is("foretold(LOW, HIGH, LOW)", x.foretold(Due.LOW, Due.HIGH, Due.LOW), NONE);
    }

    static void promise19_thoseThatCanPass(Due d) {
        for (int hour = 9938; hour <= 9999; hour += hour == 9940 ? 56 : 1) {
            StairRods x = Houses.atHour(hour);
            x.lodger(5, 5);
            int most = Math.min(60, 9999 - hour);
            int place = x.foretold(60, 0, 0);
            int trod = x.foretold(60, 0, 1);
            if (most > 0) {
                x.hour(most);
            }
            d.is("foretold(60, 0, 0) at " + hour, place, x.of(0, 2));
            d.is("foretold(60, 0, 1) at " + hour, trod, x.of(0, 3));
        }
    }

    static void promise19_at9999AllIsAsNow(Due d) {
        StairRods x = Houses.atHour(9999);
        x.lodger(5, 5);
        x.tread(0, true, 3);
        for (int n : new int[] {1, 60}) {
            d.is("foretold(" + n + ", 0, 0)", x.foretold(n, 0, 0), 3);
            d.is("foretold(" + n + ", 0, 1)", x.foretold(n, 0, 1), 1);
        }
        d.is("foretold(61, 0, 1)", x.foretold(61, 0, 1), NONE);
    }

    static void promise19_trod9999AtMost(Due d) {
        StairRods x = Houses.trodden(9998);
        // 293: LATE; 9817 mod 4 is 1: 2 up; 23449: LATE; 18012 mod 4 is 0: 1 up
        d.is("one more", x.foretold(1, 0, 1), 9999);
        d.is("two more", x.foretold(2, 0, 1), 9999);
        d.is("where it is", x.foretold(2, 0, 0), 3);
    }

    static void promise19_nothingIsDone(Due d) {
        StairRods x = Houses.of(9, 9);
        String before = Seen.all(x);
        x.foretold(60, 0, 0);
        x.foretold(60, 1, 1);
        d.same("nothing is done", before, Seen.all(x));
    }

    // ---- 20

    static void promise20_placesAre0To12(Due d) {
        StairRods x = Houses.of(1);
        d.is("quiet(0, 0, 12, NONE)", x.quiet(0, 0, 12, NONE), 4);
        d.is("quiet(0, 12, 0, NONE)", x.quiet(0, 12, 0, NONE), 4);
        d.each("quiet(0, _, 0, NONE)", Due.outside(0, 12), a -> x.quiet(0, a, 0, NONE), -2);
        d.each("quiet(0, 0, _, NONE)", Due.outside(0, 12), b -> x.quiet(0, 0, b, NONE), -2);
        d.each("quiet(0, _, _, NONE)", Due.outside(0, 12), a -> x.quiet(0, a, a, NONE), -2);
    }

    static void promise20_otherLodgers(Due d) {
        d.each("quiet(_, 0, 1, NONE) without lodgers", Due.from(-2, 6), who -> new StairRods().quiet(who, 0, 1, NONE), -2);
        StairRods x = Houses.of(1, 1);
        d.each("quiet(_, 0, 1, NONE)", Due.from(0, 1), who -> x.quiet(who, 0, 1, NONE), 1);
        d.each("quiet(_, 0, 1, NONE)", Due.outside(0, 1), who -> x.quiet(who, 0, 1, NONE), -2);
        d.each("quiet(_, 3, 3, NONE)", Due.outside(0, 1), who -> x.quiet(who, 3, 3, NONE), -2);
    }

    static void promise20_noneSuchInIt(Due d) {
        StairRods x = Houses.of(1);
        for (int i = 0; i < 4; i++) {
            d.is("quiet(0, 0, 12, " + i + ")", x.quiet(0, 0, 12, i), 3 * i + 3);
        }
        d.each("quiet(0, 0, 12, _)", Due.outsideButNone(3), i -> x.quiet(0, 0, 12, i), -2);
        d.is("quiet(0, 0, 1, 0)", x.quiet(0, 0, 1, 0), 1);
        d.is("quiet(0, 0, 1, 1)", x.quiet(0, 0, 1, 1), -2);
    }

    static void promise20_toItself(Due d) {
        StairRods loud = Houses.of(9);
        for (int place = 0; place <= 12; place++) {
            d.is("quiet(0, " + place + ", " + place + ", NONE)", loud.quiet(0, place, place, NONE), 0);
            d.is("quiet(0, " + place + ", " + place + ", 0)", loud.quiet(0, place, place, 0), -2);
        }
    }

    static void promise20_none(Due d) {
        StairRods x = Houses.of(8);
        for (int place = 1; place <= 12; place++) {
            d.is("all is loud, 0 to " + place, x.quiet(0, 0, place, NONE), -2);
            d.is("all is loud, 0 to " + place, x.quiet(0, 0, place, 0), -2);
        }
        d.is("but the hall: from 3", x.quiet(0, 3, 0, NONE), 1);
        d.is("from 4", x.quiet(0, 4, 0, NONE), -2);
        d.is("7 is quiet", Houses.of(7).quiet(0, 0, 12, NONE), 4);
    }

    static void promise20_threePlacesAreATread(Due d) {
        StairRods x = Houses.of(9);
        x.hang(3, false);
        x.hang(7, false);
        d.is("3 in one", x.quiet(0, 0, 3, NONE), 1);
        d.is("4 in none", x.quiet(0, 3, 7, NONE), -2);
        d.is("3 down in one", x.quiet(0, 6, 3, NONE), 1);
        d.is("4 down in none", x.quiet(0, 7, 3, NONE), -2);
    }

    static void promise20_theLongestWay(Due d) {
        // no law makes a longer one: down to even STAIRS and the hall, up to 1, all else is loud
        StairRods x = Houses.ruled("ticks if way=1 and stair=1 or way=0 and near stair of 2=0 then 0 else 9 end;", 1);
        int[] way = {10, 8, 6, 4, 2, 0, 1};
        d.is("quiet(0, 12, 1, NONE)", x.quiet(0, 12, 1, NONE), 7);
        for (int i = 0; i < 7; i++) {
            d.is("quiet(0, 12, 1, " + i + ")", x.quiet(0, 12, 1, i), way[i]);
        }
        d.is("quiet(0, 12, 1, 7)", x.quiet(0, 12, 1, 7), -2);
    }

    static void promise20_ofLikeOnesTheLowestNextPlace(Due d) {
        StairRods x = Houses.of(1);
        int[] to7 = {1, 4, 7};
        for (int i = 0; i < 3; i++) {
            d.is("quiet(0, 0, 7, " + i + ")", x.quiet(0, 0, 7, i), to7[i]);
        }
        int[] to5 = {9, 6, 5};
        for (int i = 0; i < 3; i++) {
            d.is("quiet(0, 12, 5, " + i + ")", x.quiet(0, 12, 5, i), to5[i]);
        }
    }

    static void promise20_trodAsNow(Due d) {
        StairRods x = Houses.ruled("ticks if trod=0 then 0 else 9 end;", 1);
        d.is("trod 0 all the way", x.quiet(0, 0, 12, NONE), 4);
        x.tread(0, true, 1);
        d.is("trod 1", x.quiet(0, 0, 12, NONE), -2);
    }

    // ---- 21

    static void promise21_placesAre0To12(Due d) {
        StairRods x = new StairRods();
        d.is("ways(0, 12)", x.ways(0, 12), 927);
        d.is("ways(11, 12)", x.ways(11, 12), 1);
        d.each("ways(_, 12)", Due.outside(0, 12), a -> x.ways(a, 12), NONE);
        d.each("ways(0, _)", Due.outside(0, 12), b -> x.ways(0, b), NONE);
        d.each("ways(_, _)", Due.outside(0, 12), a -> x.ways(a, a), NONE);
        d.is("ways(LOW, HIGH)", x.ways(Due.LOW, Due.HIGH), NONE);
    }

    static void promise21_toItself(Due d) {
        StairRods x = new StairRods();
        d.each("ways(_, _)", Due.from(0, 12), a -> x.ways(a, a), 1);
    }

    static void promise21_noneToALowerOne(Due d) {
        StairRods x = new StairRods();
        d.each("ways(_, one lower)", Due.from(1, 12), a -> x.ways(a, a - 1), NONE);
        d.is("ways(12, 0)", x.ways(12, 0), NONE);
    }

    // ---- 22

    static void promise22_placesAre0To12(Due d) {
        StairRods x = Houses.of(1);
        d.is("unheard(0, 0, 12)", x.unheard(0, 0, 12), 927);
        d.each("unheard(0, _, 12)", Due.outside(0, 12), a -> x.unheard(0, a, 12), NONE);
        d.each("unheard(0, 0, _)", Due.outside(0, 12), b -> x.unheard(0, 0, b), NONE);
        d.each("unheard(0, _, _)", Due.outside(0, 12), a -> x.unheard(0, a, a), NONE);
        d.each("unheard(0, _, one lower)", Due.from(1, 12), a -> x.unheard(0, a, a - 1), NONE);
    }

    static void promise22_noneForOtherLodgers(Due d) {
        d.each("unheard(_, 0, 1) without lodgers", Due.from(-2, 6), who -> new StairRods().unheard(who, 0, 1), NONE);
        StairRods x = Houses.of(1, 9);
        d.is("unheard(0, 0, 1)", x.unheard(0, 0, 1), 1);
        d.is("unheard(1, 0, 1)", x.unheard(1, 0, 1), 0);
        d.each("unheard(_, 0, 1)", Due.outside(0, 1), who -> x.unheard(who, 0, 1), NONE);
    }

    static void promise22_toItselfNothingIsHeard(Due d) {
        StairRods x = Houses.of(9);
        d.each("unheard(0, _, _)", Due.from(0, 12), a -> x.unheard(0, a, a), 1);
        d.is("unheard(0, 0, 1)", x.unheard(0, 0, 1), 0);
        d.is("unheard(0, 11, 12)", x.unheard(0, 11, 12), 0);
    }

    static void promise22_eightIsHeard(Due d) {
        d.is("7", Houses.of(7).unheard(0, 0, 3), 4);
        d.is("8", Houses.of(8).unheard(0, 0, 3), 0);
    }

    // ---- 23

    static void promise23_treadsAre0To12(Due d) {
        StairRods x = new StairRods();
        d.is("waysBy(0, 12, 12)", x.waysBy(0, 12, 12), 1);
        d.is("waysBy(0, 12, 11)", x.waysBy(0, 12, 11), 11);
        d.is("waysBy(0, 12, 4)", x.waysBy(0, 12, 4), 1);
        d.is("waysBy(0, 12, 3)", x.waysBy(0, 12, 3), 0);
        d.is("waysBy(0, 12, 0)", x.waysBy(0, 12, 0), 0);
        d.each("waysBy(0, 12, _)", Due.outside(0, 12), n -> x.waysBy(0, 12, n), NONE);
        d.each("waysBy(5, 5, _)", Due.outside(0, 12), n -> x.waysBy(5, 5, n), NONE);
    }

    static void promise23_placesAre0To12(Due d) {
        StairRods x = new StairRods();
        d.each("waysBy(_, 12, 1)", Due.outside(0, 12), a -> x.waysBy(a, 12, 1), NONE);
        d.each("waysBy(0, _, 1)", Due.outside(0, 12), b -> x.waysBy(0, b, 1), NONE);
        d.each("waysBy(_, _, 0)", Due.outside(0, 12), a -> x.waysBy(a, a, 0), NONE);
        d.each("waysBy(_, one lower, 1)", Due.from(1, 12), a -> x.waysBy(a, a - 1, 1), NONE);
    }

    static void promise23_toItself(Due d) {
        StairRods x = new StairRods();
        d.each("waysBy(_, _, 0)", Due.from(0, 12), a -> x.waysBy(a, a, 0), 1);
        d.each("waysBy(_, _, 1)", Due.from(0, 12), a -> x.waysBy(a, a, 1), 0);
        d.each("waysBy(_, _, 12)", Due.from(0, 12), a -> x.waysBy(a, a, 12), 0);
    }

    static void promise23_aTreadIsOf1To3(Due d) {
        StairRods x = new StairRods();
        for (int far = 0; far <= 12; far++) {
            d.is("waysBy(0, " + far + ", 1)", x.waysBy(0, far, 1), far >= 1 && far <= 3 ? 1 : 0);
            d.is("waysBy(" + (12 - far) + ", 12, 1)", x.waysBy(12 - far, 12, 1), far >= 1 && far <= 3 ? 1 : 0);
        }
    }

    // ---- 24

    static void promise24_noneForOtherLodgers(Due d) {
        d.each("loudest(_) without lodgers", Due.from(-2, 6), who -> new StairRods().loudest(who), NONE);
        StairRods x = Houses.of(9, 9);
        d.each("loudest(_)", Due.from(0, 1), x::loudest, 1);
        d.each("loudest(_)", Due.outside(0, 1), x::loudest, NONE);
    }

    static void promise24_noneIsHeard(Due d) {
        d.is("7", Houses.of(7).loudest(0), NONE);
        d.is("8", Houses.of(8).loudest(0), 1);
        d.is("0 by 0", Houses.ruled("ticks 0;hears 0;", 1).loudest(0), NONE);
        d.is("1 by 0", Houses.ruled("ticks 1;hears 0;", 1).loudest(0), 1);
        StairRods x = Houses.of(9);
        for (int stair = 1; stair <= 12; stair++) {
            d.is("loudest(0)", x.loudest(0), stair);
            x.hang(stair, false);
        }
        d.is("without cups", x.loudest(0), NONE);
    }

    static void promise24_ofLikeOnesTheLowest(Due d) {
        d.is("1 and 12", Houses.ruled("ticks if stair=1 or stair=12 then 20 else 10 end;", 1).loudest(0), 1);
        d.is("12 up, 3 down", Houses.ruled("ticks if stair=12 and way=1 or stair=3 and way=0 then 20 else 10 end;", 1).loudest(0), 3);
        d.is("12 down, 3 up", Houses.ruled("ticks if stair=12 and way=0 or stair=3 and way=1 then 20 else 10 end;", 1).loudest(0), 3);
        d.is("12 is louder by one", Houses.ruled("ticks if stair=12 then 21 else 20 end;", 1).loudest(0), 12);
    }

    // ---- 25

    static void promise25_noneForOtherLodgers(Due d) {
        d.each("heardOn(_, true) without lodgers", Due.from(-2, 6), who -> new StairRods().heardOn(who, true), NONE);
        StairRods x = Houses.of(9, 9);
        d.each("heardOn(_, true)", Due.from(0, 1), who -> x.heardOn(who, true), 8190);
        d.each("heardOn(_, true)", Due.outside(0, 1), who -> x.heardOn(who, true), NONE);
        d.each("heardOn(_, false)", Due.outside(0, 1), who -> x.heardOn(who, false), NONE);
    }

    static void promise25_noStairAndEveryStair(Due d) {
        d.is("7", Houses.of(7).heardOn(0, true), 0);
        d.is("8", Houses.of(8).heardOn(0, true), 8190);
        d.is("0 by 0", Houses.ruled("ticks 0;hears 0;", 1).heardOn(0, true), 0);
        d.is("1 by 0", Houses.ruled("ticks 1;hears 0;", 1).heardOn(0, false), 8190);
        StairRods x = Houses.of(9);
        for (int stair = 1; stair <= 12; stair++) {
            x.hang(stair, false);
            d.is("without a cup on " + stair, x.heardOn(0, stair % 2 == 0), 8192 - (2 << stair));
        }
    }

    static void promise25_theLowestAndTheHighestBit(Due d) {
        d.is("1", Houses.ruled("ticks if stair=1 then 9 else 0 end;", 1).heardOn(0, true), 2);
        d.is("12", Houses.ruled("ticks if stair=12 then 9 else 0 end;", 1).heardOn(0, true), 4096);
    }

    // ---- 26

    static void promise26_noCupAndAllCups(Due d) {
        StairRods x = new StairRods();
        d.is("all", x.cupRow(), 12);
        for (int stair = 1; stair <= 12; stair++) {
            x.hang(stair, false);
            d.is("from " + (stair + 1) + " on", x.cupRow(), 12 - stair);
        }
    }

    static void promise26_rowsAtBothEnds(Due d) {
        for (int stair = 1; stair <= 12; stair++) {
            StairRods x = new StairRods();
            x.hang(stair, false);
            d.is("without " + stair, x.cupRow(), Math.max(stair - 1, 12 - stair));
        }
        StairRods x = new StairRods();
        for (int stair = 2; stair <= 11; stair++) {
            x.hang(stair, false);
        }
        d.is("1 and 12 are not side by side", x.cupRow(), 1);
    }
}
