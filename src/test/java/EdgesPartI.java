/** Edges that part I (Terms) names: treads, hours, steps, the book. */
final class EdgesPartI {
    private static final int NONE = Due.NONE;
    /** Draws by 4 of a LODGER in an HOUR. */
    private static final int UP_1 = 0;
    private static final int UP_2 = 1;
    private static final int DOWN_1 = 2;
    private static final int REST = 3;

    // ---- TROD

    static void partI_noneBeyond0ByHand(Due d) {
        StairRods x = Houses.of(1);
        d.each("down _ from 0", Due.from(1, 3), n -> x.tread(0, false, n), NONE);
        x.tread(0, true, 1);
        d.each("down _ from 1", Due.from(2, 3), n -> x.tread(0, false, n), NONE);
        x.tread(0, true, 1);
        d.is("down 3 from 2", x.tread(0, false, 3), NONE);
        d.is("down 2 from 2", x.tread(0, false, 2), 0);
        d.is("of(0, 2)", x.of(0, 2), 0);
        d.is("of(0, 3)", x.of(0, 3), 3);
    }

    static void partI_noneBeyond12ByHand(Due d) {
        StairRods x = Houses.up(Houses.of(1), 10);
        d.is("up 3 from 10", x.tread(0, true, 3), NONE);
        d.is("up 1 from 10", x.tread(0, true, 1), 0);
        d.each("up _ from 11", Due.from(2, 3), n -> x.tread(0, true, n), NONE);
        d.is("up 1 from 11", x.tread(0, true, 1), 0);
        d.each("up _ from 12", Due.from(1, 3), n -> x.tread(0, true, n), NONE);
        d.is("of(0, 2)", x.of(0, 2), 12);
        d.is("of(0, 3)", x.of(0, 3), 6);
    }

    /** LODGER 0 in a PLACE draws this in an HOUR: where it is then, and whether it trod. */
    private static void drawn(Due d, int place, int draw, int then) {
        StairRods x = Houses.up(Houses.of(1), place);
        Houses.setDraw(x, NONE, draw, NONE);
        int trod = x.of(0, 3);
        x.hour(1);
        d.is("in " + place + " it draws " + draw + ": where it is", x.of(0, 2), then);
        d.is("in " + place + " it draws " + draw + ": how often it trod more", x.of(0, 3) - trod, then == place ? 0 : 1);
    }

    static void partI_noneBeyond0InAnHour(Due d) {
        drawn(d, 0, DOWN_1, 0);
        drawn(d, 1, DOWN_1, 0);
        drawn(d, 2, DOWN_1, 1);
        drawn(d, 12, DOWN_1, 11);
    }

    static void partI_noneBeyond12InAnHour(Due d) {
        drawn(d, 12, UP_1, 12);
        drawn(d, 11, UP_1, 12);
        drawn(d, 0, UP_1, 1);
        drawn(d, 12, UP_2, 12);
        drawn(d, 11, UP_2, 11);
        drawn(d, 10, UP_2, 12);
        drawn(d, 0, UP_2, 2);
    }

    static void partI_itRests(Due d) {
        for (int place = 0; place <= 12; place++) {
            drawn(d, place, REST, place);
        }
    }

    static void partI_trod9999AtMostByHand(Due d) {
        StairRods x = Houses.trodden(9998);
        d.is("of(0, 3)", x.of(0, 3), 9998);
        d.is("tread, heard", x.tread(0, true, 1), 9);
        d.is("of(0, 3)", x.of(0, 3), 9999);
        d.is("tread, heard", x.tread(0, true, 1), 9);
        d.is("of(0, 3)", x.of(0, 3), 9999);
        d.is("it goes all the same", x.of(0, 2), 2);
        d.is("undo()", x.undo(), 29);
        d.is("of(0, 3)", x.of(0, 3), 9999);
        x.undo();
        d.is("of(0, 3)", x.of(0, 3), 9998);
    }

    static void partI_trod9999AtMostElsewhere(Due d) {
        StairRods x = Houses.trodden(9998);
        Due.text(x, "up 1 by 0;up 1 by 0;");
        d.is("played(1)", x.played(1), NONE);
        d.is("of(0, 3)", x.of(0, 3), 9999);
        // an hour: LATE from 293, then 9817 mod 4 is 1: 2 up
        x.hour(1);
        d.is("of(0, 2)", x.of(0, 2), 4);
        d.is("of(0, 3)", x.of(0, 3), 9999);
        // 295 mod 6 is 1: 2 down in a night
        x.nights(1, 1);
        d.is("of(0, 2)", x.of(0, 2), 2);
        d.is("of(0, 3)", x.of(0, 3), 9999);
        d.is("trod in ticks", Due.text(x, "ticks trod/101;") == 2 && x.by(2) ? x.ticks(0, 1, true) : NONE, 99);
    }

    static void partI_ticksAsMuchAsHears(Due d) {
        for (int hears = 1; hears <= 99; hears += 7) {
            StairRods x = Houses.ruled("ticks 50;hears " + hears + ";", 1);
            d.is("50 by " + hears, x.tread(0, true, 1), hears <= 50 ? 50 : 0);
            d.is("book(NONE, 0)", x.book(NONE, 0), hears <= 50 ? 1 : 0);
        }
        d.is("50 by 50", Houses.ruled("ticks 50;hears 50;", 1).tread(0, true, 1), 50);
        d.is("50 by 51", Houses.ruled("ticks 50;hears 51;", 1).tread(0, true, 1), 0);
    }

    static void partI_ticksMoreThan0(Due d) {
        StairRods x = Houses.ruled("ticks stair-1;hears 0;", 1);
        d.is("0 on 1", x.tread(0, true, 1), 0);
        d.is("book(NONE, 0)", x.book(NONE, 0), 0);
        d.is("1 on 2", x.tread(0, true, 1), 1);
        d.is("book(NONE, 0)", x.book(NONE, 0), 1);
    }

    static void partI_onAStairWithACup(Due d) {
        for (int stair = 1; stair <= 12; stair++) {
            StairRods x = Houses.up(Houses.of(9), stair - 1);
            int lines = x.book(NONE, 0);
            x.hang(stair, false);
            d.is("without a cup on " + stair, x.tread(0, true, 1), 0);
            d.is("book(NONE, 0)", x.book(NONE, 0), lines);
            x.undo();
            x.undo();
            d.is("with a cup on " + stair, x.tread(0, true, 1), 9);
            d.is("book(NONE, 0)", x.book(NONE, 0), lines + 1);
        }
    }

    static void partI_theHallHasNoRod(Due d) {
        for (int n = 1; n <= 3; n++) {
            StairRods x = Houses.ruled("ticks 99;hears 0;", 9);
            x.tread(0, true, n);
            d.is("down " + n + " to the hall", x.tread(0, false, n), 0);
            d.is("book(NONE, 0)", x.book(NONE, 0), 1);
        }
    }

    static void partI_theStairThatItComesToCounts(Due d) {
        StairRods x = Houses.ruled("ticks stair+20;", 1);
        d.is("up 3", x.tread(0, true, 3), 23);
        d.is("up 3", x.tread(0, true, 3), 26);
        d.is("down 1", x.tread(0, false, 1), 25);
        int[] stairs = {3, 6, 5};
        for (int i = 0; i < 3; i++) {
            d.is("book(" + i + ", 1)", x.book(i, 1), stairs[i]);
            d.is("book(" + i + ", 2)", x.book(i, 2), stairs[i] + 20);
        }
    }

    // ---- AN HOUR

    static void partI_xMod30763(Due d) {
        StairRods x = new StairRods();
        long due = 293;
        for (int i = 0; i < 200; i++) {
            d.is("is(1) in HOUR " + i, x.is(1), due);
            x.hour(1);
            due = (due * 557 + 431) % 30763;
        }
    }

    static void partI_xAtBothEndsOfTheModulus(Due d) {
        // SEED 6315: 12923 * 557 + 431 is 234 * 30763 and nothing more
        StairRods x = new StairRods();
        x.nights(6315, 1);
        d.is("LATE by X 0", x.is(2), 0);
        d.is("X behind 0", x.is(1), 431);
        // SEED 1869: 4031 * 557 + 431 is one less than 73 * 30763
        x = new StairRods();
        x.nights(1869, 1);
        d.is("LATE by X 30762", x.is(2), 2);
        d.is("X behind 30762", x.is(1), 30763 - 557 + 431);
    }

    static void partI_lateIsXMod10(Due d) {
        for (int late = 0; late <= 9; late++) {
            StairRods x = Houses.of(1);
            Houses.setDraw(x, late, REST, NONE);
            d.is("X", x.is(1) % 10, late);
            x.hour(1);
            d.is("is(2)", x.is(2), late);
            d.is("ticks: WEIGHT and LATE", x.ticks(0, 1, true), 1 + late);
        }
    }

    static void partI_drawsByNumber(Due d) {
        StairRods x = Houses.of(1, 1, 1, 1, 1, 1);
        x.hour(1);
        int draw = Houses.after(293);
        for (int who = 0; who < 6; who++) {
            int[] place = {1, 2, 0, 0};
            d.is("of(" + who + ", 2)", x.of(who, 2), place[draw % 4]);
            draw = Houses.after(draw);
        }
        d.is("is(1)", x.is(1), draw);
    }

    static void partI_aDrawIsMadeThoughItCantTread(Due d) {
        StairRods x = Houses.up(Houses.of(1), 12);
        Houses.setDraw(x, NONE, UP_1, NONE);
        int due = Houses.after(Houses.after(x.is(1)));
        x.hour(1);
        d.is("is(1)", x.is(1), due);
    }

    static void partI_lateIsNewAheadOfTheTreads(Due d) {
        // WEIGHT 1 and LATE 7 are 8: heard; LATE 6 is not enough
        for (int late = 6; late <= 7; late++) {
            StairRods x = Houses.of(1);
            Houses.setDraw(x, late, UP_1, 1);
            d.is("hour(1) by LATE " + late, x.hour(1), late == 7 ? 1 : 0);
            d.is("book(NONE, 0)", x.book(NONE, 0), late == 7 ? 1 : 0);
        }
    }

    static void partI_theHourIsOneMoreBehindTheTreads(Due d) {
        StairRods x = Houses.ruled("ticks hour+9;", 1);
        x.hour(1);
        d.is("book(0, 0)", x.book(0, 0), 0);
        d.is("book(0, 2)", x.book(0, 2), 9);
        d.is("is(0)", x.is(0), 1);
    }

    static void partI_at9999NoneCanPass(Due d) {
        StairRods x = Houses.atHour(9999);
        x.lodger(9, 9);
        String before = Seen.all(x);
        d.is("hour(1)", x.hour(1), NONE);
        d.same("nothing is done", before, Seen.all(x));
        Due.text(x, "hour 1;");
        d.is("played(0)", x.played(0), 0);
        d.is("about(3)", x.about(3), 30);
        d.is("is(0)", x.is(0), 9999);
        int draw = x.is(1);
        d.is("foretold", x.foretold(1, 0, 1), 0);
        // SEED 0: 293 mod 6 is 5, an HOUR: X is drawn once for the night, and no more
        d.is("nights(0, 1)", x.nights(0, 1), 9999);
        d.that("X was another", draw != 9817);
        d.is("is(1)", x.is(1), 9817);
        d.is("of(0, 3)", x.of(0, 3), 0);
    }

    static void partI_9998CanPass(Due d) {
        StairRods x = Houses.atHour(9998);
        d.is("hour(1)", x.hour(1), 0);
        d.is("is(0)", x.is(0), 9999);
        x.undo();
        d.is("is(0)", x.is(0), 9998);
        d.is("nights(0, 1)", x.nights(0, 1), 9999);
        d.is("nights(0, 1)", x.nights(0, 1), 9999);
    }

    // ---- BOOK

    static void partI_theLatest30Ticks(Due d) {
        StairRods x = Houses.ruled("ticks trod+1;hears 1;", 1);
        x.tread(0, true, 1);
        for (int i = 2; i <= 33; i++) {
            x.tread(0, i % 2 == 0, 1);
            if (i >= 29) {
                int lines = Math.min(i, 30);
                d.is("book(NONE, 0) behind " + i, x.book(NONE, 0), lines);
                d.is("the eldest", x.book(0, 2), i - lines + 1);
                d.is("the second", x.book(1, 2), i - lines + 2);
                d.is("the latest", x.book(lines - 1, 2), i);
            }
        }
    }

    static void partI_aLineHasHourStairAndHowLoud(Due d) {
        StairRods x = Houses.ruled("ticks 99;");
        Houses.untilHour(x, 9999);
        x.lodger(1, 1);
        for (int i = 0; i < 4; i++) {
            x.tread(0, true, 3);
        }
        d.is("the greatest HOUR", x.book(3, 0), 9999);
        d.is("the greatest STAIR", x.book(3, 1), 12);
        d.is("the loudest", x.book(3, 2), 99);
    }

    // ---- STEPS

    static void partI_theLatest30Steps(Due d) {
        StairRods x = Houses.of(1);
        x.tread(0, true, 1);
        x.hang(1, false);
        x.hour(1);
        x.nights(1, 1);
        d.is("about(3)", x.about(3), 4);
        x.hour(25);
        d.is("29", x.about(3), 29);
        x.hour(1);
        d.is("30", x.about(3), 30);
        x.hour(1);
        d.is("31 are 30", x.about(3), 30);
        for (int left = 29; left >= 0; left--) {
            d.is("undo()", x.undo(), left);
        }
        d.is("undo()", x.undo(), NONE);
        d.is("the first tread stays", x.of(0, 2), 1);
        d.is("the cup is there again", x.is(3), 8190);
    }

    private static void takenBack(Due d, String step, StairRods x, Runnable done) {
        String before = Seen.all(x);
        done.run();
        d.that(step + " changes something", !before.equals(Seen.all(x)));
        x.undo();
        d.same(step + " is taken back", before, Seen.all(x));
    }

    static void partI_allIsAsAheadOfTheStep(Due d) {
        StairRods x = Houses.of(9, 9, 9);
        x.hour(10);
        takenBack(d, "a tread", x, () -> x.tread(0, x.of(0, 2) < 6, 1));
        takenBack(d, "a cup taken down", x, () -> x.hang(12, false));
        StairRods y = Houses.of(9, 9, 9);
        y.hang(1, false);
        takenBack(d, "a cup hung", y, () -> y.hang(1, true));
        takenBack(d, "an hour", y, () -> y.hour(1));
        StairRods z = Houses.of(9, 9, 9);
        z.hour(3);
        takenBack(d, "nights", z, () -> z.nights(77, 40));
    }

    static void partI_aLineThatWentComesBack(Due d) {
        StairRods x = Houses.ruled("ticks trod+1;hears 1;", 1);
        x.tread(0, true, 1);
        for (int i = 2; i <= 31; i++) {
            x.tread(0, i % 2 == 0, 1);
        }
        d.is("the eldest is the second", x.book(0, 2), 2);
        x.undo();
        d.is("book(NONE, 0)", x.book(NONE, 0), 30);
        d.is("the eldest is the first", x.book(0, 2), 1);
        d.is("the latest", x.book(29, 2), 30);
    }

    static void partI_lodgersToldSinceAreInTheHall(Due d) {
        StairRods x = Houses.of(9);
        x.tread(0, true, 3);
        for (int i = 1; i < 6; i++) {
            x.lodger(9, i);
        }
        x.hour(1);
        x.tread(5, true, 3);
        d.is("undo()", x.undo(), 2);
        d.is("undo()", x.undo(), 1);
        d.is("of(0, 2)", x.of(0, 2), 3);
        d.is("undo() of a step ahead of the others", x.undo(), 0);
        for (int who = 0; who < 6; who++) {
            d.is("of(" + who + ", 2)", x.of(who, 2), 0);
            d.is("of(" + who + ", 3)", x.of(who, 3), 0);
        }
        d.is("all in the hall", x.doubles(), 15);
        d.is("about(0)", x.about(0), 6);
    }

    static void partI_refusedCallsAreNoSteps(Due d) {
        StairRods x = Houses.of(1);
        x.tread(0, false, 1);
        x.hang(1, true);
        x.hour(0);
        x.hour(61);
        x.nights(0, 0);
        x.nights(10000, 1);
        Due.text(x, "hang 1;");
        x.played(0);
        x.undo();
        d.is("about(3)", x.about(3), 0);
    }
}
