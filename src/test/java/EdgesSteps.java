/** Edges of the promises 8 to 13: tread, hang, hour, played, nights, undo. */
final class EdgesSteps {
    private static final int NONE = Due.NONE;
    private static final int LOW = Due.LOW;
    private static final int HIGH = Due.HIGH;

    // ---- 8

    static void promise8_noneBelowTheHall(Due d) {
        for (int place = 0; place <= 3; place++) {
            for (int n = 1; n <= 3; n++) {
                StairRods x = Houses.up(Houses.of(1), place);
                d.is("down " + n + " from " + place, x.tread(0, false, n), n <= place ? 0 : NONE);
                d.is("where it is", x.of(0, 2), n <= place ? place - n : place);
            }
        }
    }

    static void promise8_noneAbove12(Due d) {
        for (int place = 9; place <= 12; place++) {
            for (int n = 1; n <= 3; n++) {
                StairRods x = Houses.up(Houses.of(1), place);
                d.is("up " + n + " from " + place, x.tread(0, true, n), place + n <= 12 ? 0 : NONE);
                d.is("where it is", x.of(0, 2), place + n <= 12 ? place + n : place);
            }
        }
    }

    static void promise8_placesAre1To3(Due d) {
        d.each("tread(0, true, _)", Due.from(1, 3), n -> Houses.of(1).tread(0, true, n), 0);
        d.each("tread(0, true, _)", Due.outside(1, 3), n -> Houses.of(1).tread(0, true, n), NONE);
        d.each("tread(0, false, _) from 6", Due.from(1, 3), n -> Houses.up(Houses.of(1), 6).tread(0, false, n), 0);
        d.each("tread(0, false, _) from 6", Due.outside(1, 3), n -> Houses.up(Houses.of(1), 6).tread(0, false, n), NONE);
    }

    static void promise8_noneForOtherLodgers(Due d) {
        d.each("tread(_, true, 1) without lodgers", Due.from(-2, 6), who -> new StairRods().tread(who, true, 1), NONE);
        StairRods x = Houses.of(1, 1);
        d.each("tread(_, true, 1)", Due.from(0, 1), who -> x.tread(who, true, 1), 0);
        d.each("tread(_, true, 1)", Due.outside(0, 1), who -> x.tread(who, true, 1), NONE);
        StairRods full = Houses.of(1, 1, 1, 1, 1, 1);
        d.is("tread(5, true, 1)", full.tread(5, true, 1), 0);
        d.is("tread(6, true, 1)", full.tread(6, true, 1), NONE);
    }

    static void promise8_aRefusedTreadDoesNothing(Due d) {
        StairRods x = Houses.up(Houses.of(9), 2);
        String before = Seen.all(x);
        x.tread(0, false, 3);
        x.tread(0, true, 0);
        x.tread(0, true, 4);
        x.tread(0, true, NONE);
        x.tread(1, true, 1);
        x.tread(NONE, true, 1);
        x.tread(LOW, false, HIGH);
        d.same("nothing is done", before, Seen.all(x));
    }

    static void promise8_howLoudItWasHeard(Due d) {
        d.is("8 by 8", Houses.of(8).tread(0, true, 1), 8);
        d.is("7 by 8", Houses.of(7).tread(0, true, 1), 0);
        d.is("99 by 99", Houses.ruled("ticks 99;hears 99;", 1).tread(0, true, 1), 99);
        d.is("98 by 99", Houses.ruled("ticks 98;hears 99;", 1).tread(0, true, 1), 0);
        d.is("1 by 0", Houses.ruled("ticks 1;hears 0;", 1).tread(0, true, 1), 1);
        d.is("0 by 0", Houses.ruled("ticks 0;hears 0;", 1).tread(0, true, 1), 0);
    }

    static void promise8_isAStepThoughNotHeard(Due d) {
        StairRods x = Houses.of(1);
        d.is("tread", x.tread(0, true, 1), 0);
        d.is("about(3)", x.about(3), 1);
        d.is("book(NONE, 0)", x.book(NONE, 0), 0);
        d.is("of(0, 3)", x.of(0, 3), 1);
    }

    // ---- 9

    static void promise9_stairsAre1To12(Due d) {
        StairRods x = new StairRods();
        d.each("hang(_, false)", Due.from(1, 12), stair -> x.hang(stair, false) ? 1 : 0, 1);
        d.is("is(3)", x.is(3), 0);
        d.each("hang(_, true)", Due.outside(1, 12), stair -> x.hang(stair, true) ? 1 : 0, 0);
        d.is("is(3)", x.is(3), 0);
        d.each("hang(_, true)", Due.from(1, 12), stair -> x.hang(stair, true) ? 1 : 0, 1);
        d.is("is(3)", x.is(3), 8190);
        d.each("hang(_, false)", Due.outside(1, 12), stair -> x.hang(stair, false) ? 1 : 0, 0);
        d.is("is(3)", x.is(3), 8190);
        d.is("about(3)", x.about(3), 24);
    }

    static void promise9_stairsThatAreAlikeInTheirLowestBits(Due d) {
        StairRods x = new StairRods();
        for (int stair = 1; stair <= 12; stair++) {
            d.is("hang(" + (stair + 32) + ", false)", x.hang(stair + 32, false), false);
            d.is("hang(" + (stair - 32) + ", false)", x.hang(stair - 32, false), false);
        }
        d.is("is(3)", x.is(3), 8190);
    }

    static void promise9_falseIfItIsSo(Due d) {
        StairRods x = new StairRods();
        d.each("hang(_, true)", Due.from(1, 12), stair -> x.hang(stair, true) ? 1 : 0, 0);
        d.is("no step", x.about(3), 0);
        x.hang(1, false);
        x.hang(12, false);
        d.is("hang(1, false)", x.hang(1, false), false);
        d.is("hang(12, false)", x.hang(12, false), false);
        d.is("two steps", x.about(3), 2);
        d.is("is(3)", x.is(3), 8190 - 2 - 4096);
    }

    // ---- 10

    static void promise10_hoursAre1To60(Due d) {
        for (int n = 1; n <= 60; n++) {
            StairRods x = new StairRods();
            d.is("hour(" + n + ")", x.hour(n), 0);
            d.is("is(0)", x.is(0), n);
        }
        StairRods x = new StairRods();
        d.each("hour(_)", Due.outside(1, 60), x::hour, NONE);
        d.is("is(0)", x.is(0), 0);
        d.is("is(1)", x.is(1), 293);
    }

    static void promise10_9999CanBeComeTo(Due d) {
        StairRods x = Houses.atHour(9939);
        d.is("hour(60) at 9939", x.hour(60), 0);
        d.is("is(0)", x.is(0), 9999);
        x = Houses.atHour(9998);
        d.is("hour(1) at 9998", x.hour(1), 0);
        d.is("is(0)", x.is(0), 9999);
    }

    static void promise10_noneBeyond9999(Due d) {
        StairRods x = Houses.atHour(9940);
        d.is("hour(60) at 9940", x.hour(60), NONE);
        d.is("hour(59) at 9940", x.hour(59), 0);
        d.each("hour(_) at 9999", Due.from(0, 61), x::hour, NONE);
        d.is("hour(HIGH)", x.hour(HIGH), NONE);
        d.is("is(0)", x.is(0), 9999);
    }

    static void promise10_nothingIsDoneBeyond9999(Due d) {
        StairRods x = Houses.atHour(9990);
        x.lodger(9, 1);
        x.lodger(8, 1);
        String before = Seen.all(x);
        d.each("hour(_) at 9990", Due.from(10, 60), x::hour, NONE);
        d.same("nothing is done", before, Seen.all(x));
        d.that("hour(9)", x.hour(9) >= 0);
    }

    static void promise10_ticksAreCountedBeyondTheBook(Due d) {
        StairRods x = Houses.of(9, 9, 9, 9, 9, 9);
        StairRods y = Houses.of(9, 9, 9, 9, 9, 9);
        int one = 0;
        for (int i = 0; i < 60; i++) {
            one += y.hour(1);
        }
        d.that("more than 30 are heard: " + one, one > 30);
        d.is("hour(60)", x.hour(60), one);
        d.is("book(NONE, 0)", x.book(NONE, 0), 30);
    }

    static void promise10_unheardTicksAreNotCounted(Due d) {
        d.is("nothing is loud enough", Houses.ruled("hears 99;", 9, 9).hour(60), 0);
        d.is("0 isn't heard", Houses.ruled("ticks 0;hears 0;", 9, 9).hour(60), 0);
        // 9817 mod 4 is 1, 23449 mod 4 is 1: both LODGERS tread 2 up in the first HOUR
        d.is("1 is", Houses.ruled("ticks 1;hears 0;", 9, 9).hour(1), 2);
        d.is("1 by 1 is", Houses.ruled("ticks 1;hears 1;", 9, 9).hour(1), 2);
        d.is("who is heard counts", Houses.ruled("ticks who;hears 1;", 9, 9).hour(1), 1);
    }

    static void promise10_eachHourIsAStep(Due d) {
        for (int n : new int[] {1, 2, 29, 30, 31, 60}) {
            StairRods x = new StairRods();
            x.hour(n);
            d.is("about(3) behind hour(" + n + ")", x.about(3), Math.min(n, 30));
            x.undo();
            d.is("is(0)", x.is(0), n - 1);
        }
    }

    // ---- 11

    static void promise11_others(Due d) {
        StairRods x = new StairRods();
        d.each("played(_) without texts", Due.outside(0, -1), x::played, -2);
        d.is("played(0) without texts", x.played(0), -2);
        d.is("played(NONE)", x.played(NONE), -2);
        for (int texts = 1; texts <= 4; texts++) {
            x.text();
            d.is("the last", x.played(texts - 1), NONE);
            d.is("one beyond", x.played(texts), -2);
        }
        d.each("played(_)", Due.outside(0, 3), x::played, -2);
        d.is("nothing is done", x.about(3), 0);
    }

    static void promise11_allIsDone(Due d) {
        StairRods x = new StairRods();
        Due.text(x, "");
        d.is("no clause", x.played(0), NONE);
        Due.text(x, "ticks 3;hears 4;");
        d.is("laws alone", x.played(1), NONE);
        d.is("no step", x.about(3), 0);
        d.is("they don't rule", x.hears(1), 8);
        Due.text(x, "lodger 1 floor 1;up 1 by 0;down 1 by 0;unhang 1;hang 1;hour 1;");
        d.is("one of each", x.played(2), NONE);
        d.is("about(3)", x.about(3), 5);
    }

    /** The number of the clause that can't be, of a text played by a house. */
    private static void cant(Due d, StairRods x, String text, int number) {
        int t = Due.text(x, text);
        d.is("\"" + text + "\"", x.played(t), number);
    }

    static void promise11_theSeventhLodgerCantBe(Due d) {
        cant(d, Houses.of(1, 1, 1, 1, 1), "lodger 1 floor 1;", NONE);
        cant(d, Houses.of(1, 1, 1, 1, 1, 1), "lodger 1 floor 1;", 0);
        cant(d, Houses.of(), "lodger 1 floor 1;".repeat(7), 6);
    }

    static void promise11_treadsThatCantBe(Due d) {
        cant(d, Houses.of(), "up 1 by 0;", 0);
        cant(d, Houses.of(1), "up 1 by 1;", 0);
        cant(d, Houses.of(1), "down 1 by 0;", 0);
        cant(d, Houses.of(1), "up 3 by 0;up 3 by 0;up 3 by 0;up 3 by 0;", NONE);
        cant(d, Houses.of(1), "up 3 by 0;up 3 by 0;up 3 by 0;up 3 by 0;up 1 by 0;", 4);
        cant(d, Houses.of(1), "up 2 by 0;down 2 by 0;", NONE);
        cant(d, Houses.of(1), "up 2 by 0;down 3 by 0;", 1);
    }

    static void promise11_cupsThatCantBe(Due d) {
        cant(d, Houses.of(), "hang 1;", 0);
        cant(d, Houses.of(), "hang 12;", 0);
        cant(d, Houses.of(), "unhang 1;unhang 12;", NONE);
        cant(d, Houses.of(), "unhang 1;unhang 1;", 1);
        cant(d, Houses.of(), "unhang 12;hang 12;hang 12;", 2);
    }

    static void promise11_hoursThatCantBe(Due d) {
        StairRods x = Houses.atHour(9998);
        cant(d, x, "hour 1;", NONE);
        cant(d, x, "hour 1;", 0);
        d.is("is(0)", x.is(0), 9999);
        cant(d, Houses.atHour(9939), "hour 60;", NONE);
        cant(d, Houses.atHour(9940), "hour 60;", 0);
    }

    static void promise11_ofSoManyHoursThoseThatCanPassDo(Due d) {
        StairRods x = Houses.atHour(9940);
        x.lodger(9, 1);
        int where = x.foretold(59, 0, 0);
        cant(d, x, "hour 60;unhang 1;", 0);
        d.is("is(0)", x.is(0), 9999);
        d.is("they passed as by hand", x.of(0, 2), where);
        d.is("is(3): what follows isn't done", x.is(3), 8190);
        d.is("undo()", x.undo(), 29);
        d.is("is(0): each is a step", x.is(0), 9998);
    }

    static void promise11_lawsAreCountedAmongTheClauses(Due d) {
        cant(d, Houses.of(), "ticks 1;hang 1;", 1);
        cant(d, Houses.of(), "ticks 1;hears 1;hang 1;", 2);
        cant(d, Houses.of(), "unhang 1;ticks 1;unhang 2;hears 1;unhang 1;", 4);
        cant(d, Houses.of(), "hang 1;ticks 1;", 0);
    }

    static void promise11_theLastOf24(Due d) {
        cant(d, Houses.of(), "unhang 1;hang 1;".repeat(12), NONE);
        cant(d, Houses.of(), "unhang 1;hang 1;".repeat(11) + "unhang 1;unhang 1;", 23);
    }

    static void promise11_whatWasDoneStays(Due d) {
        StairRods x = new StairRods();
        cant(d, x, "lodger 9 floor 2;up 2 by 0;unhang 5;hour 1;hang 5;hang 5;unhang 6;", 5);
        d.is("about(0)", x.about(0), 1);
        d.is("of(0, 3): a tread and 2 up in the hour", x.of(0, 3), 2);
        d.is("is(0)", x.is(0), 1);
        d.is("is(3)", x.is(3), 8190);
        d.is("about(3)", x.about(3), 4);
        d.is("book(NONE, 0)", x.book(NONE, 0), 2);
    }

    // ---- 12

    static void promise12_seedsAre0To9999(Due d) {
        d.is("nights(0, 1): X 293 mod 6 is 5, an hour", new StairRods().nights(0, 1), 1);
        d.is("nights(9999, 1): X 20291 mod 6 is 5, an hour", new StairRods().nights(9999, 1), 1);
        StairRods x = new StairRods();
        x.nights(9999, 1);
        d.is("is(2)", x.is(2), Houses.after(20291) % 10);
        d.is("is(1)", x.is(1), Houses.after(Houses.after(20291)));
        d.each("nights(_, 1)", Due.outside(0, 9999), seed -> new StairRods().nights(seed, 1), NONE);
    }

    static void promise12_timesAre1To40(Due d) {
        d.each("nights(0, _)", Due.outside(1, 40), n -> new StairRods().nights(0, n), NONE);
        int draws = 293;
        int hours = 0;
        for (int n = 1; n <= 40; n++) {
            StairRods x = new StairRods();
            hours += draws % 6 >= 4 ? 1 : 0;
            draws = draws % 6 >= 4 ? Houses.after(Houses.after(draws)) : Houses.after(draws);
            d.is("nights(0, " + n + ")", x.nights(0, n), hours);
            d.is("is(1)", x.is(1), draws);
        }
    }

    static void promise12_refusedNightsDoNothing(Due d) {
        StairRods x = Houses.of(9, 9);
        x.hour(3);
        String before = Seen.all(x);
        x.nights(-1, 1);
        x.nights(10000, 1);
        x.nights(1, 0);
        x.nights(1, 41);
        x.nights(LOW, HIGH);
        x.nights(HIGH, LOW);
        d.same("nothing is done", before, Seen.all(x));
    }

    static void promise12_theHourIsAnswered(Due d) {
        StairRods x = new StairRods();
        x.hour(60);
        // 295 mod 6 is 1: a tread, and there is nobody
        d.is("nights(1, 1)", x.nights(1, 1), 60);
        d.is("nights(0, 1)", x.nights(0, 1), 61);
    }

    static void promise12_isOneStep(Due d) {
        StairRods x = Houses.of(9);
        String before = Seen.all(x);
        x.nights(77, 40);
        d.is("about(3)", x.about(3), 1);
        d.is("undo()", x.undo(), 0);
        d.same("all is taken back", before, Seen.all(x));
        x.nights(1, 1);
        d.is("a step though nobody can tread", x.about(3), 1);
    }

    // ---- 13

    static void promise13_noneIfThereIsNone(Due d) {
        StairRods x = Houses.of(5);
        String before = Seen.all(x);
        d.is("undo()", x.undo(), NONE);
        d.is("undo()", x.undo(), NONE);
        d.same("nothing is done", before, Seen.all(x));
        x.tread(0, true, 1);
        d.is("undo()", x.undo(), 0);
        d.is("undo()", x.undo(), NONE);
    }

    static void promise13_theLatest30(Due d) {
        for (int steps : new int[] {1, 29, 30, 31, 32, 59, 60, 61, 90}) {
            StairRods x = new StairRods();
            for (int i = 0; i < steps; i++) {
                x.hang(1 + i % 12, i / 12 % 2 == 1);
            }
            int can = Math.min(steps, 30);
            d.is("about(3) behind " + steps, x.about(3), can);
            for (int left = can - 1; left >= 0; left--) {
                d.is("undo()", x.undo(), left);
            }
            d.is("undo()", x.undo(), NONE);
            StairRods y = new StairRods();
            for (int i = 0; i < steps - can; i++) {
                y.hang(1 + i % 12, i / 12 % 2 == 1);
            }
            d.is("is(3)", x.is(3), y.is(3));
        }
    }

    static void promise13_newStepsBehindTakenOnes(Due d) {
        StairRods x = new StairRods();
        x.hour(40);
        for (int i = 0; i < 10; i++) {
            x.undo();
        }
        d.is("about(3)", x.about(3), 20);
        d.is("is(0)", x.is(0), 30);
        x.hour(15);
        d.is("about(3)", x.about(3), 30);
        for (int left = 29; left >= 0; left--) {
            d.is("undo()", x.undo(), left);
        }
        d.is("is(0)", x.is(0), 15);
        d.is("undo()", x.undo(), NONE);
    }

    static void promise13_isNoStepItself(Due d) {
        StairRods x = new StairRods();
        x.hang(1, false);
        x.hang(2, false);
        d.is("undo()", x.undo(), 1);
        d.is("is(3)", x.is(3), 8190 - 2);
        d.is("undo()", x.undo(), 0);
        d.is("is(3)", x.is(3), 8190);
    }

    static void promise13_whatIsToldStays(Due d) {
        StairRods x = Houses.of(5);
        x.hang(1, false);
        x.lodger(7, 8);
        x.print(0, 6);
        Due.text(x, "ticks 44;");
        x.by(0);
        x.change(0, 0, 9);
        x.sound(1, 1, 9);
        x.listen(1);
        x.code(12);
        x.heavy(0, 7);
        x.said(0, 1, 44);
        String before = Seen.all(x).replaceAll("is.3.*\n|about.3.*\n", "");
        d.is("undo()", x.undo(), 0);
        d.is("is(3)", x.is(3), 8190);
        d.same("what is told stays", before, Seen.all(x).replaceAll("is.3.*\n|about.3.*\n", ""));
    }
}
