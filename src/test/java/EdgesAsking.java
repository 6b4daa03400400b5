/** Edges of the promises 14 to 18 and 60: of, ticks, hears, is, book, about. */
final class EdgesAsking {
    private static final int NONE = Due.NONE;

    // ---- 14

    static void promise14_noneForOtherLodgers(Due d) {
        d.each("of(_, 0) without lodgers", Due.from(-2, 6), who -> new StairRods().of(who, 0), NONE);
        StairRods x = new StairRods();
        for (int lodgers = 1; lodgers <= 6; lodgers++) {
            x.lodger(lodgers, lodgers + 6);
            d.is("the last", x.of(lodgers - 1, 0), lodgers);
            d.is("the last", x.of(lodgers - 1, 1), lodgers + 6);
            d.is("one beyond", x.of(lodgers, 0), NONE);
        }
        for (int what = 0; what <= 4; what++) {
            int asked = what;
            d.each("of(_, " + what + ")", Due.outside(0, 5), who -> x.of(who, asked), NONE);
        }
    }

    static void promise14_noneForOtherQuestions(Due d) {
        StairRods x = Houses.of(3);
        d.each("of(0, _)", Due.outside(0, 4), what -> x.of(0, what), NONE);
        d.is("of(0, 0)", x.of(0, 0), 3);
        d.is("of(0, 4)", x.of(0, 4), 0);
        d.is("of(LOW, HIGH)", x.of(Due.LOW, Due.HIGH), NONE);
    }

    static void promise14_smallestAndLargestAnswers(Due d) {
        StairRods x = Houses.of(1);
        x.lodger(9, 12);
        x.print(1, 8190);
        int[] least = {1, 1, 0, 0, 0};
        for (int what = 0; what <= 4; what++) {
            d.is("of(0, " + what + ")", x.of(0, what), least[what]);
        }
        for (int i = 0; i < 4; i++) {
            x.tread(1, true, 3);
        }
        int[] most = {9, 12, 12, 4, 8190};
        for (int what = 0; what <= 4; what++) {
            d.is("of(1, " + what + ")", x.of(1, what), most[what]);
        }
    }

    // ---- 15

    static void promise15_stairsAre1To12(Due d) {
        StairRods x = Houses.ruled("ticks stair*5;", 1);
        for (int stair = 1; stair <= 12; stair++) {
            d.is("ticks(0, " + stair + ", true)", x.ticks(0, stair, true), stair * 5);
            d.is("ticks(0, " + stair + ", false)", x.ticks(0, stair, false), stair * 5);
        }
        d.each("ticks(0, _, true)", Due.outside(1, 12), stair -> x.ticks(0, stair, true), NONE);
        d.each("ticks(0, _, false)", Due.outside(1, 12), stair -> x.ticks(0, stair, false), NONE);
        StairRods y = Houses.of(4);
        d.each("ticks(0, _, true) without a text", Due.from(1, 12), stair -> y.ticks(0, stair, true), 4);
        d.each("ticks(0, _, true) without a text", Due.outside(1, 12), stair -> y.ticks(0, stair, true), NONE);
    }

    static void promise15_noneForOtherLodgers(Due d) {
        d.each("ticks(_, 1, true) without lodgers", Due.from(-2, 6), who -> new StairRods().ticks(who, 1, true), NONE);
        StairRods x = Houses.of(3, 3, 3, 3, 3, 3);
        d.each("ticks(_, 1, true)", Due.from(0, 5), who -> x.ticks(who, 1, true), 3);
        d.each("ticks(_, 1, true)", Due.outside(0, 5), who -> x.ticks(who, 1, true), NONE);
        StairRods y = Houses.ruled("ticks 50;", 1);
        d.each("ticks(_, 1, true) by a text", Due.outside(0, 0), who -> y.ticks(who, 1, true), NONE);
    }

    static void promise15_withoutACupToo(Due d) {
        StairRods x = Houses.of(4);
        x.hang(5, false);
        d.is("ticks(0, 5, true)", x.ticks(0, 5, true), 4);
    }

    // ---- 16

    static void promise16_stairsAre1To12(Due d) {
        StairRods x = new StairRods();
        d.each("hears(_) without a text", Due.from(1, 12), x::hears, 8);
        d.each("hears(_) without a text", Due.outside(1, 12), x::hears, NONE);
        StairRods y = Houses.ruled("hears stair*5;");
        for (int stair = 1; stair <= 12; stair++) {
            d.is("hears(" + stair + ")", y.hears(stair), stair * 5);
        }
        d.each("hears(_)", Due.outside(1, 12), y::hears, NONE);
    }

    static void promise16_withoutACupToo(Due d) {
        StairRods x = new StairRods();
        x.hang(5, false);
        d.is("hears(5)", x.hears(5), 8);
    }

    // ---- 17

    static void promise17_others(Due d) {
        StairRods x = new StairRods();
        d.each("is(_)", Due.outside(0, 3), x::is, -2);
    }

    static void promise17_smallestAndLargestAnswers(Due d) {
        StairRods x = Houses.atHour(9999);
        d.is("is(0)", x.is(0), 9999);
        for (int stair = 1; stair <= 12; stair++) {
            d.is("is(3)", x.is(3), 8192 - (1 << stair));
            x.hang(stair, false);
        }
        d.is("is(3)", x.is(3), 0);
        x.hang(1, true);
        d.is("is(3): bit 1 is the lowest", x.is(3), 2);
        x.hang(12, true);
        d.is("is(3): bit 12 is the highest", x.is(3), 4098);
    }

    // ---- 18

    static void promise18_anEmptyBook(Due d) {
        StairRods x = Houses.of(1);
        d.is("book(NONE, 0)", x.book(NONE, 0), 0);
        for (int what = 0; what <= 2; what++) {
            d.is("book(0, " + what + ")", x.book(0, what), -2);
        }
        x.tread(0, true, 1);
        d.is("a tread that isn't heard", x.book(NONE, 0), 0);
        d.is("book(0, 0)", x.book(0, 0), -2);
    }

    static void promise18_noneSuch(Due d) {
        StairRods x = Houses.of(9);
        for (int lines = 1; lines <= 4; lines++) {
            x.tread(0, true, 3);
            d.is("book(NONE, 0)", x.book(NONE, 0), lines);
            d.is("the first", x.book(0, 1), 3);
            d.is("the last", x.book(lines - 1, 1), 3 * lines);
            d.is("one beyond", x.book(lines, 1), -2);
        }
        d.each("book(_, 1)", Due.outsideButNone(3), i -> x.book(i, 1), -2);
    }

    static void promise18_otherQuestions(Due d) {
        StairRods x = Houses.of(9);
        x.tread(0, true, 3);
        x.tread(0, true, 3);
        d.each("book(0, _)", Due.outside(0, 2), what -> x.book(0, what), -2);
        d.each("book(1, _)", Due.outside(0, 2), what -> x.book(1, what), -2);
        d.is("book(LOW, HIGH)", x.book(Due.LOW, Due.HIGH), -2);
    }

    static void promise18_howManyWhateverIsAsked(Due d) {
        StairRods x = Houses.of(9);
        x.tread(0, true, 3);
        d.each("book(NONE, _)", Due.from(-2, 4), what -> x.book(NONE, what), 1);
    }

    static void promise18_aFullBook(Due d) {
        StairRods x = Houses.ruled("ticks trod+1;hears 1;", 1);
        for (int i = 1; i <= 32; i++) {
            x.tread(0, i == 1 || i % 2 == 0, 1);
            int lines = Math.min(i, 30);
            d.is("book(NONE, 0)", x.book(NONE, 0), lines);
            d.is("the eldest", x.book(0, 2), i - lines + 1);
            d.is("the latest", x.book(lines - 1, 2), i);
            d.is("one beyond", x.book(lines, 2), -2);
        }
        d.is("book(30, 0)", x.book(30, 0), -2);
    }

    // ---- 60

    static void promise60_others(Due d) {
        StairRods x = new StairRods();
        d.each("about(_)", Due.outside(0, 7), x::about, -2);
    }

    static void promise60_empty(Due d) {
        StairRods x = new StairRods();
        for (int what = 0; what <= 7; what++) {
            d.is("about(" + what + ")", x.about(what), what == 2 ? NONE : 0);
        }
    }

    static void promise60_full(Due d) {
        StairRods x = Houses.of(1, 1, 1, 1, 1, 1);
        for (int i = 0; i < 6; i++) {
            x.text();
            x.listen(0);
            x.listen(1);
            x.said(0, 1, 1);
            x.said(0, 1, 1);
        }
        for (int word : new int[] {1, 2, 11, 12, 21, 22}) {
            x.code(word);
        }
        x.lodger(1, 1);
        x.by(3);
        x.hour(60);
        for (int i = 0; i < 16; i++) {
            x.feed(0, 0, 0, 0, 0);
        }
        int[] most = {6, 4, 3, 30, 6, 5, 8, 300};
        for (int what = 0; what <= 7; what++) {
            d.is("about(" + what + ")", x.about(what), most[what]);
        }
    }
}
