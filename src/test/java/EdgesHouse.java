/** Edges of the promises 1 to 7: a new object, lodger, feed, end, text, fault, by. */
final class EdgesHouse {
    private static final int NONE = Due.NONE;
    private static final int LOW = Due.LOW;
    private static final int HIGH = Due.HIGH;

    // ---- 1

    static void promise1_nobody(Due d) {
        StairRods x = new StairRods();
        d.is("about(0)", x.about(0), 0);
        d.each("of(0, _)", Due.from(0, 4), what -> x.of(0, what), NONE);
        d.is("highest()", x.highest(), NONE);
        d.is("restless()", x.restless(), NONE);
        d.is("home()", x.home(), 0);
        d.is("doubles()", x.doubles(), 0);
    }

    static void promise1_allStairsHaveCupsAtFirst(Due d) {
        StairRods x = new StairRods();
        d.is("is(3)", x.is(3), 0b1111111111110);
        d.is("cupRow()", x.cupRow(), 12);
        d.each("hang(_, true)", Due.from(1, 12), stair -> x.hang(stair, true) ? 1 : 0, 0);
    }

    static void promise1_hourLateAndXAtFirst(Due d) {
        StairRods x = new StairRods();
        d.is("is(0)", x.is(0), 0);
        d.is("is(1)", x.is(1), 293);
        d.is("is(2)", x.is(2), 0);
    }

    static void promise1_bookAndStepsAreEmptyAtFirst(Due d) {
        StairRods x = new StairRods();
        d.is("book(NONE, 0)", x.book(NONE, 0), 0);
        d.is("ledger(NONE)", x.ledger(NONE), 0);
        d.is("about(3)", x.about(3), 0);
        d.is("undo()", x.undo(), NONE);
    }

    static void promise1_noTextAtFirst(Due d) {
        StairRods x = new StairRods();
        d.is("about(1)", x.about(1), 0);
        d.is("about(2)", x.about(2), NONE);
        d.is("about(7)", x.about(7), 0);
        d.is("hears(1)", x.hears(1), 8);
    }

    static void promise1_nothingIsToldAtFirst(Due d) {
        StairRods x = new StairRods();
        d.is("about(4)", x.about(4), 0);
        d.is("about(5)", x.about(5), 0);
        d.is("about(6)", x.about(6), 0);
    }

    static void promise1_weightsAre1AtFirst(Due d) {
        StairRods x = new StairRods();
        for (int sound = 0; sound < 3; sound++) {
            x.listen(sound);
        }
        d.is("weighed()", x.weighed(), 27);
        d.is("cheapest(6): 2 * 2 + 4 * 3", x.cheapest(6), 16);
    }

    static void promise1_theImageIsThis(Due d) {
        String fresh = Seen.all(new StairRods());
        StairRods x = Houses.ruled("ticks 9;", 1, 2, 3);
        x.hour(30);
        x.hang(x.is(3) > 4095 ? 12 : 11, false);
        x.print(0, 2);
        x.heavy(0, 9);
        x.said(0, 1, 1);
        x.code(12);
        x.change(0, 0, 2);
        x.sound(0, 0, 2);
        x.listen(0);
        d.is("back()", x.back(), 0);
        d.same("as a new object, the fault aside", fresh.replaceAll("fault.*\n", ""), Seen.all(x).replaceAll("fault.*\n", ""));
    }

    // ---- 2

    static void promise2_weightsAre1To9(Due d) {
        d.each("lodger(_, 1)", Due.from(1, 9), weight -> new StairRods().lodger(weight, 1), 0);
        d.each("lodger(_, 1)", Due.outside(1, 9), weight -> new StairRods().lodger(weight, 1), NONE);
        StairRods x = new StairRods();
        x.lodger(1, 5);
        x.lodger(9, 5);
        d.is("of(0, 0)", x.of(0, 0), 1);
        d.is("of(1, 0)", x.of(1, 0), 9);
    }

    static void promise2_floorsAre1To12(Due d) {
        d.each("lodger(1, _)", Due.from(1, 12), floor -> new StairRods().lodger(1, floor), 0);
        d.each("lodger(1, _)", Due.outside(1, 12), floor -> new StairRods().lodger(1, floor), NONE);
        StairRods x = new StairRods();
        x.lodger(5, 1);
        x.lodger(5, 12);
        d.is("of(0, 1)", x.of(0, 1), 1);
        d.is("of(1, 1)", x.of(1, 1), 12);
    }

    static void promise2_noneIfThereAre6(Due d) {
        StairRods x = new StairRods();
        d.eachItself("the lodger _", 0, 5, i -> x.lodger(9 - i, 12 - i), 0);
        d.is("the seventh", x.lodger(1, 1), NONE);
        d.is("the eighth", x.lodger(9, 12), NONE);
        d.is("about(0)", x.about(0), 6);
        for (int i = 0; i < 6; i++) {
            d.is("of(" + i + ", 0)", x.of(i, 0), 9 - i);
            d.is("of(" + i + ", 1)", x.of(i, 1), 12 - i);
        }
    }

    static void promise2_refusedOnesAreNobody(Due d) {
        StairRods x = Houses.of(5);
        x.lodger(0, 1);
        x.lodger(1, 13);
        x.lodger(LOW, HIGH);
        d.is("about(0)", x.about(0), 1);
        d.is("of(1, 0)", x.of(1, 0), NONE);
        d.is("the next number", x.lodger(1, 1), 1);
    }

    static void promise2_aNewOneIsInTheHallAndNeverTrod(Due d) {
        StairRods x = Houses.of(5);
        x.hour(10);
        x.lodger(3, 4);
        int[] due = {3, 4, 0, 0, 0};
        for (int what = 0; what < 5; what++) {
            d.is("of(1, " + what + ")", x.of(1, what), due[what]);
        }
    }

    static void promise2_isNoStep(Due d) {
        StairRods x = Houses.of(5, 6);
        d.is("about(3)", x.about(3), 0);
        d.is("undo()", x.undo(), NONE);
        d.is("about(0)", x.about(0), 2);
    }

    // ---- 3

    /** Twenty bytes, blanks but for one of them. */
    private static int feedWith(StairRods x, int at, int sign) {
        int[] row = new int[5];
        for (int i = 0; i < 20; i++) {
            row[i / 4] = row[i / 4] << 8 | (i == at ? sign : ' ');
        }
        return x.feed(row[0], row[1], row[2], row[3], row[4]);
    }

    static void promise3_theHighestOfAFirst(Due d) {
        for (int at = 0; at < 20; at++) {
            StairRods x = new StairRods();
            d.is("feed", feedWith(x, at, '?'), 20);
            d.is("text()", x.text(), NONE);
            d.is("fault(1)", x.fault(1), at);
        }
    }

    static void promise3_bytesComeBehindTheTape(Due d) {
        for (int times = 1; times < 15; times++) {
            StairRods x = new StairRods();
            for (int i = 0; i < times; i++) {
                feedWith(x, NONE, 0);
            }
            d.is("feed", feedWith(x, 7, '?'), 20 * times + 20);
            x.text();
            d.is("fault(1)", x.fault(1), 20 * times + 7);
        }
    }

    static void promise3_300AreNotTooMany(Due d) {
        StairRods x = new StairRods();
        d.eachItself("feed, _ twenties ahead of it", 0, 14, i -> feedWith(x, NONE, 0) / 20 - 1, 0);
        d.is("about(7)", x.about(7), 300);
        d.is("end(280)", x.end(280), 280);
        d.is("feed at 280", feedWith(x, 19, '?'), 300);
        x.text();
        d.is("the last byte's place", x.fault(1), 299);
    }

    static void promise3_noneComeBeyond300(Due d) {
        StairRods x = new StairRods();
        for (int i = 0; i < 15; i++) {
            feedWith(x, NONE, 0);
        }
        for (int length = 300; length >= 281; length--) {
            d.is("end(" + length + ")", x.end(length), length);
            d.is("feed at " + length, feedWith(x, 0, '?'), NONE);
            d.is("about(7)", x.about(7), length);
        }
        d.is("text(): blanks alone", x.text(), 0);
    }

    static void promise3_smallestAndLargestInts(Due d) {
        StairRods x = new StairRods();
        d.is("feed", x.feed(LOW, HIGH, NONE, 0, 1), 20);
        d.is("text()", x.text(), NONE);
        d.is("byte 128 is no token", x.fault(1), 0);
        for (int number : new int[] {LOW, HIGH, NONE, 0}) {
            x.feed(0x20202020, number, 0x20202020, 0x20202020, 0x20202020);
            x.text();
            d.is("fault(0)", x.fault(0), 1);
            d.is("fault(1)", x.fault(1), 4);
        }
    }

    // ---- 4

    static void promise4_nFrom0ToTheTapesLength(Due d) {
        StairRods x = new StairRods();
        d.is("end(0), the tape being empty", x.end(0), 0);
        for (int n = 0; n <= 20; n++) {
            x.end(0);
            x.feed(1, 2, 3, 4, 5);
            d.is("end(" + n + ")", x.end(n), n);
            d.is("about(7)", x.about(7), n);
        }
    }

    static void promise4_noneIfItHasNotSoMany(Due d) {
        StairRods x = new StairRods();
        d.each("end(_), the tape being empty", Due.outside(0, 0), x::end, NONE);
        x.feed(1, 2, 3, 4, 5);
        d.each("end(_)", Due.outside(0, 20), x::end, NONE);
        d.is("nothing is done", x.about(7), 20);
        x.end(7);
        d.is("end(8)", x.end(8), NONE);
        d.is("end(20)", x.end(20), NONE);
        d.is("nothing is done", x.about(7), 7);
    }

    static void promise4_noneBelow0(Due d) {
        StairRods x = new StairRods();
        x.feed(1, 2, 3, 4, 5);
        d.is("end(-1)", x.end(-1), NONE);
        d.is("end(LOW)", x.end(LOW), NONE);
        d.is("nothing is done", x.about(7), 20);
    }

    static void promise4_noneAbove300(Due d) {
        StairRods x = new StairRods();
        for (int i = 0; i < 15; i++) {
            feedWith(x, NONE, 0);
        }
        d.is("end(301)", x.end(301), NONE);
        d.is("end(300)", x.end(300), 300);
    }

    static void promise4_theFirstBytesAlone(Due d) {
        StairRods x = new StairRods();
        feedWith(x, 5, '?');
        d.is("end(5)", x.end(5), 5);
        d.is("the ? is gone", x.text(), 0);
        feedWith(x, 5, '?');
        d.is("end(6)", x.end(6), 6);
        d.is("the ? is there", x.text(), NONE);
        feedWith(x, 5, '?');
        x.end(5);
        d.is("feed comes behind the fifth", feedWith(x, 3, '!'), 25);
        x.text();
        d.is("fault(1)", x.fault(1), 8);
    }

    static void promise4_bytesThatWereCutOffAreNoMore(Due d) {
        StairRods x = new StairRods();
        Due.onTape(x, "hour 60;");
        x.end(6);
        d.is("hour 6", x.text(), NONE);
        d.is("fault(1)", x.fault(1), 6);
        Due.onTape(x, "hour 60;");
        x.end(6);
        x.feed(0x3b202020, 0x20202020, 0x20202020, 0x20202020, 0x20202020);
        d.is("hour 6;", x.text(), 0);
        x.played(0);
        d.is("is(0)", x.is(0), 6);
        Due.onTape(x, "unhang 5;unhangs 6;");
        x.end(9);
        d.is("unhang 5;", x.text(), 1);
        Due.onTape(x, "unhang 5;");
        x.end(5);
        d.is("unhan", x.text(), NONE);
        d.is("fault(1)", x.fault(1), 0);
        Due.onTape(x, "ticks if 1<=2 then 3 else 4 end;");
        x.end(11);
        x.feed(0x20322074, 0x68656e20, 0x3320656c, 0x73652034, 0x20656e64);
        x.feed(0x3b202020, 0x20202020, 0x20202020, 0x20202020, 0x20202020);
        d.is("ticks if 1< 2 then 3 else 4 end;", x.text(), 2);
    }

    // ---- 5

    static void promise5_anEmptyTapeIsAText(Due d) {
        StairRods x = new StairRods();
        d.is("text()", x.text(), 0);
        d.is("text()", x.text(), 1);
        d.is("fault(0)", x.fault(0), 0);
        d.is("played(1)", x.played(1), NONE);
    }

    static void promise5_noneIfThereAre4(Due d) {
        StairRods x = new StairRods();
        d.eachItself("the text _", 0, 3, i -> Due.text(x, "hour 1;"), 0);
        d.is("the fifth", Due.text(x, "hour 1;"), NONE);
        d.is("about(1)", x.about(1), 4);
        d.is("an empty one", Due.text(x, ""), NONE);
        d.is("about(1)", x.about(1), 4);
    }

    static void promise5_theTapeStaysIfThereAre4(Due d) {
        StairRods x = new StairRods();
        for (int i = 0; i < 4; i++) {
            x.text();
        }
        Due.onTape(x, "hang 1;unhang 2;?");
        d.is("text()", x.text(), NONE);
        d.is("about(7)", x.about(7), 17);
        d.is("text()", x.text(), NONE);
        d.is("about(7)", x.about(7), 17);
        x.back();
        d.is("text() of the same bytes", x.text(), NONE);
        d.is("fault(1)", x.fault(1), 16);
    }

    static void promise5_theTapeIsEmptyThen(Due d) {
        StairRods x = new StairRods();
        Due.text(x, "hang 1;");
        d.is("about(7) behind a whole text", x.about(7), 0);
        Due.text(x, "hang 0;");
        d.is("about(7) behind one with a fault", x.about(7), 0);
    }

    static void promise5_aTextWithAFaultIsNone(Due d) {
        StairRods x = new StairRods();
        for (int i = 0; i < 6; i++) {
            d.is("text()", Due.text(x, "hang 1;hang"), NONE);
            d.is("about(1)", x.about(1), 0);
        }
        d.is("by(0)", x.by(0), false);
        d.is("played(0)", x.played(0), -2);
        d.is("the next number", Due.text(x, "hour 2;"), 0);
        d.is("what is played is that text alone", x.played(0), NONE);
        d.is("is(0)", x.is(0), 2);
    }

    static void promise5_aTextWithAFaultLeavesTheOthers(Due d) {
        StairRods x = Houses.ruled("ticks 40;hears 3;hour 2;", 1);
        Due.text(x, "hears 20;ticks 50;hour 5;?");
        d.is("ticks", x.ticks(0, 1, true), 40);
        d.is("hears", x.hears(1), 3);
        d.is("played(0)", x.played(0), NONE);
        d.is("is(0)", x.is(0), 2);
    }

    // ---- 6

    static void promise6_noneAheadOfAny(Due d) {
        StairRods x = new StairRods();
        d.each("fault(_)", Due.from(-3, 4), x::fault, NONE);
        x.feed(1, 2, 3, 4, 5);
        d.each("fault(_), the tape not being read yet", Due.from(-3, 4), x::fault, NONE);
    }

    static void promise6_noneForOthers(Due d) {
        StairRods x = new StairRods();
        Due.text(x, "hang 0;");
        d.is("fault(0)", x.fault(0), 2);
        d.is("fault(1)", x.fault(1), 5);
        d.each("fault(_)", Due.outside(0, 1), x::fault, NONE);
        x.text();
        d.each("fault(_)", Due.outside(0, 1), x::fault, NONE);
    }

    static void promise6_withoutAFault(Due d) {
        StairRods x = new StairRods();
        x.text();
        d.is("fault(0)", x.fault(0), 0);
        d.is("fault(1)", x.fault(1), NONE);
        Due.text(x, "?");
        d.is("fault(0)", x.fault(0), 1);
        d.is("fault(1): place 0 is none but a place", x.fault(1), 0);
        x.text();
        d.is("fault(0)", x.fault(0), 0);
        d.is("fault(1)", x.fault(1), NONE);
    }

    static void promise6_theLatestThatWasRead(Due d) {
        StairRods x = new StairRods();
        Due.text(x, "hang 1;");
        Due.text(x, "hang 1;");
        Due.text(x, "hang 1;");
        Due.text(x, "hang 13;");
        d.is("fault(0)", x.fault(0), 2);
        Due.text(x, "hang 1;");
        Due.text(x, "  ?");
        d.is("the fifth isn't read", x.fault(0), 0);
        d.is("the fifth isn't read", x.fault(1), NONE);
    }

    // ---- 7

    static void promise7_noneIsAlwaysTrue(Due d) {
        StairRods x = new StairRods();
        d.is("by(NONE)", x.by(NONE), true);
        d.is("about(2)", x.about(2), NONE);
        x = Houses.ruled("ticks 50;hears 60;", 3);
        d.is("by(NONE)", x.by(NONE), true);
        d.is("about(2)", x.about(2), NONE);
        d.is("ticks", x.ticks(0, 1, true), 3);
        d.is("hears", x.hears(1), 8);
    }

    static void promise7_textsThatThereAre(Due d) {
        StairRods x = new StairRods();
        for (int texts = 0; texts <= 4; texts++) {
            d.each("by(_) of " + texts, Due.from(0, texts - 1), t -> x.by(t) ? x.about(2) - t : NONE, 0);
            d.each("by(_) of " + texts, Due.from(texts, 5), t -> x.by(t) ? 1 : 0, 0);
            x.text();
        }
    }

    static void promise7_falseForOthers(Due d) {
        StairRods x = new StairRods();
        d.each("by(_) without texts", Due.outsideButNone(0), t -> x.by(t) ? 1 : 0, 0);
        x.text();
        x.text();
        x.by(1);
        d.each("by(_)", Due.outsideButNone(1), t -> x.by(t) ? 1 : 0, 0);
        d.is("THE TEXT stays", x.about(2), 1);
    }
}
