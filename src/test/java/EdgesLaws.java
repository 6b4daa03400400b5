/** Edges of the promises 48 to 51: heavy, cheapest, said, whose. */
final class EdgesLaws {
    private static final int NONE = Due.NONE;

    // ---- 48

    static void promise48_messagesAre0To5(Due d) {
        StairRods x = new StairRods();
        d.each("heavy(_, 1)", Due.from(0, 5), message -> x.heavy(message, 1) ? 1 : 0, 1);
        d.each("heavy(_, 50)", Due.outside(0, 5), message -> x.heavy(message, 50) ? 1 : 0, 0);
        d.is("cheapest(6)", x.cheapest(6), 16);
    }

    static void promise48_weightsAre1To99(Due d) {
        for (int weight : new int[] {1, 2, 98, 99}) {
            StairRods x = new StairRods();
            d.is("heavy(0, " + weight + ")", x.heavy(0, weight), true);
            d.is("cheapest(2)", x.cheapest(2), weight + 1);
        }
        StairRods x = new StairRods();
        d.each("heavy(0, _)", Due.outside(1, 99), weight -> x.heavy(0, weight) ? 1 : 0, 0);
        d.is("cheapest(2)", x.cheapest(2), 2);
    }

    static void promise48_theLatestCounts(Due d) {
        StairRods x = new StairRods();
        x.heavy(1, 99);
        x.heavy(1, 7);
        x.heavy(1, 100);
        d.is("cheapest(2)", x.cheapest(2), 8);
    }

    // ---- 49

    static void promise49_nIs1To6(Due d) {
        StairRods x = new StairRods();
        int[] due = {0, 2, 5, 8, 12, 16};
        for (int n = 1; n <= 6; n++) {
            d.is("cheapest(" + n + ")", x.cheapest(n), due[n - 1]);
        }
        d.each("cheapest(_)", Due.outside(1, 6), x::cheapest, NONE);
    }

    static void promise49_one(Due d) {
        StairRods x = new StairRods();
        d.is("cheapest(1)", x.cheapest(1), 0);
        x.heavy(0, 99);
        d.is("cheapest(1)", x.cheapest(1), 0);
    }

    static void promise49_theFirstNAlone(Due d) {
        StairRods x = new StairRods();
        for (int message = 0; message < 6; message++) {
            x.heavy(message, message == 0 ? 1 : 99);
        }
        d.is("cheapest(2)", x.cheapest(2), 100);
        x.heavy(5, 1);
        d.is("cheapest(5): 1 of three digits with a 99, and three of two", x.cheapest(5), 300 + 3 * 198);
        d.is("cheapest(6): both of 1 of four digits, a 99 of three, three of two", x.cheapest(6), 8 + 297 + 3 * 198);
    }

    static void promise49_theLongestWords(Due d) {
        StairRods x = new StairRods();
        int[] doubling = {32, 16, 8, 4, 2, 1};
        for (int i = 0; i < 6; i++) {
            x.heavy(i, doubling[i]);
        }
        d.is("words of 1, 2, 3, 4, 5, 5 digits", x.cheapest(6), 32 + 32 + 24 + 16 + 10 + 5);
        for (int i = 0; i < 6; i++) {
            x.heavy(i, doubling[5 - i]);
        }
        d.is("likewise from behind", x.cheapest(6), 32 + 32 + 24 + 16 + 10 + 5);
    }

    static void promise49_theHeaviest(Due d) {
        StairRods x = new StairRods();
        for (int i = 0; i < 6; i++) {
            x.heavy(i, 99);
        }
        d.is("cheapest(6)", x.cheapest(6), 16 * 99);
    }

    static void promise49_changesNothing(Due d) {
        StairRods x = new StairRods();
        x.heavy(0, 9);
        x.cheapest(6);
        x.cheapest(3);
        d.is("cheapest(2)", x.cheapest(2), 10);
        d.is("cheapest(6) again", x.cheapest(6), x.cheapest(6));
    }

    // ---- 50

    static void promise50_otherLodgers(Due d) {
        d.each("said(_, 1, 1) without lodgers", Due.outsideButNone(-1), who -> new StairRods().said(who, 1, 1), -2);
        d.is("said(0, 1, 1) without lodgers", new StairRods().said(0, 1, 1), -2);
        StairRods x = Houses.of(1, 1);
        d.each("said(_, 1, 1)", Due.outsideButNone(1), who -> x.said(who, 1, 1), -2);
        d.is("about(6)", x.about(6), 0);
        d.is("said(1, 1, 1)", x.said(1, 1, 1), 1);
        StairRods full = Houses.of(1, 1, 1, 1, 1, 1);
        d.is("said(5, 1, 1)", full.said(5, 1, 1), 1);
        d.is("said(6, 1, 1)", full.said(6, 1, 1), -2);
    }

    static void promise50_stairsAre1To12(Due d) {
        d.each("said(0, _, 1)", Due.from(1, 12), stair -> Houses.of(1).said(0, stair, 1), 1);
        StairRods x = Houses.of(1);
        d.each("said(0, _, 1)", Due.outside(1, 12), stair -> x.said(0, stair, 1), -2);
        d.is("about(6)", x.about(6), 0);
    }

    static void promise50_ticksAre0To99(Due d) {
        d.each("said(0, 1, _)", Due.from(0, 99), ticks -> Houses.of(1).said(0, 1, ticks), 1);
        StairRods x = Houses.of(1);
        d.each("said(0, 1, _)", Due.outside(0, 99), ticks -> x.said(0, 1, ticks), -2);
        d.is("about(6)", x.about(6), 0);
    }

    static void promise50_eightAtMost(Due d) {
        StairRods x = Houses.of(1);
        d.eachItself("said, the _th", 1, 8, i -> x.said(0, i, i), 0);
        d.is("the ninth", x.said(0, 9, 9), -2);
        d.is("one of them again", x.said(0, 1, 1), -2);
        d.is("about(6)", x.about(6), 8);
    }

    static void promise50_noneAnyMore(Due d) {
        StairRods x = Houses.of(1);
        d.is("said(NONE, 1, 1) without any", x.said(NONE, 1, 1), 0);
        for (int i = 0; i < 8; i++) {
            x.said(0, 1, 99);
        }
        d.is("said(NONE, 1, 1) with eight", x.said(NONE, 1, 1), 0);
        d.is("about(6)", x.about(6), 0);
        x.text();
        d.is("whose()", x.whose(), 1);
        d.is("said(0, 1, 1)", x.said(0, 1, 1), 1);
        d.is("without lodgers", new StairRods().said(NONE, 1, 1), 0);
    }

    // ---- 51

    static void promise51_noTextAndFour(Due d) {
        StairRods x = Houses.of(5);
        d.is("no text", x.whose(), 0);
        x.said(0, 1, 5);
        d.is("no text", x.whose(), 0);
        for (int texts = 1; texts <= 4; texts++) {
            Due.text(x, "ticks 5;");
            d.is("texts: " + texts, x.whose(), (1 << texts) - 1);
        }
    }

    static void promise51_nothingSaid(Due d) {
        StairRods x = Houses.of();
        Due.text(x, "ticks 5;");
        Due.text(x, "ticks 6;");
        d.is("whose()", x.whose(), 3);
    }

    static void promise51_allAreSo(Due d) {
        StairRods x = Houses.of(5);
        Due.text(x, "ticks stair;");
        Due.text(x, "ticks if stair<8 then stair else 7 end;");
        for (int i = 1; i <= 7; i++) {
            x.said(0, i, i);
            d.is("whose()", x.whose(), 3);
        }
        x.said(0, 8, 8);
        d.is("the eighth tells", x.whose(), 1);
    }

    static void promise51_ofThatLodgerAndThatStair(Due d) {
        StairRods x = Houses.of(5, 6, 7);
        Due.text(x, "ticks who*20+stair;");
        Due.text(x, "ticks stair;");
        Due.text(x, "ticks who*20+5;");
        x.said(2, 12, 52);
        d.is("LODGER 2, STAIR 12", x.whose(), 1);
        x.said(NONE, 0, 0);
        x.said(0, 12, 12);
        d.is("LODGER 0, STAIR 12", x.whose(), 3);
        x.said(1, 5, 25);
        d.is("and LODGER 1, STAIR 5", x.whose(), 1);
        x.said(NONE, 0, 0);
        x.said(1, 5, 25);
        d.is("LODGER 1, STAIR 5 alone", x.whose(), 5);
    }

    static void promise51_ofWhatWasForgotten(Due d) {
        StairRods x = Houses.of(5);
        Due.text(x, "ticks stair;");
        for (int i = 0; i < 8; i++) {
            x.said(0, 1, 99);
        }
        x.said(NONE, 0, 0);
        d.is("nothing said", x.whose(), 1);
        x.said(0, 3, 3);
        d.is("one alone", x.whose(), 1);
    }

    static void promise51_ticksAre0And99(Due d) {
        StairRods x = Houses.of(5);
        Due.text(x, "ticks 0-1;");
        Due.text(x, "ticks 100;");
        Due.text(x, "ticks 0;");
        Due.text(x, "ticks 99;");
        x.said(0, 1, 0);
        d.is("0 at least", x.whose(), 5);
        x.said(NONE, 0, 0);
        x.said(0, 1, 99);
        d.is("99 at most", x.whose(), 10);
    }

    static void promise51_goingUp(Due d) {
        StairRods x = Houses.of(5);
        Due.text(x, "ticks way*3+4;");
        Due.text(x, "ticks 7-way*3;");
        x.said(0, 1, 7);
        d.is("whose()", x.whose(), 1);
    }

    static void promise51_aTextWithoutTicks(Due d) {
        StairRods x = Houses.of(5);
        Due.text(x, "hears 1;");
        x.said(0, 1, 5);
        d.is("WEIGHT and LATE", x.whose(), 1);
        x.said(0, 1, 6);
        d.is("WEIGHT and LATE", x.whose(), 0);
    }

    static void promise51_theTextDoesNotMatter(Due d) {
        StairRods x = Houses.of(5);
        Due.text(x, "ticks 30;");
        Due.text(x, "ticks 40;");
        x.said(0, 1, 40);
        for (int text = NONE; text <= 1; text++) {
            x.by(text);
            d.is("whose()", x.whose(), 2);
        }
    }
}
