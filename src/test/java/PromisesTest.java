/** The promises one by one: ordinary calls, the edges that the document names, and wrong ones. */
public final class PromisesTest {
    private static final int NONE = -1;
    private static final int LOW = Integer.MIN_VALUE;
    private static final int HIGH = Integer.MAX_VALUE;
    private static final Due D = new Due();

    public static void main(String[] args) {
        housekeeping();
        texts();
        steps();
        asking();
        ways();
        moods();
        codes();
        prints();
        laws();
        sums();
        images();
        D.finish("PromisesTest");
    }

    private static StairRods house(int... weights) {
        StairRods x = new StairRods();
        for (int i = 0; i < weights.length; i++) {
            x.lodger(weights[i], i + 1);
        }
        return x;
    }

    private static StairRods ruled(String text, int... weights) {
        StairRods x = house(weights);
        int t = Due.text(x, text);
        D.that("the text \"" + text + "\" is whole", t >= 0 && x.by(t));
        return x;
    }

    // ---- 1 .. 7

    private static void housekeeping() {
        D.promise(1, "a new object");
        StairRods x = new StairRods();
        for (int what = 0; what <= 7; what++) {
            D.is("about(" + what + ")", x.about(what), what == 2 ? NONE : 0);
        }
        D.is("is(0)", x.is(0), 0);
        D.is("is(1)", x.is(1), 293);
        D.is("is(2)", x.is(2), 0);
        D.is("is(3)", x.is(3), 8190);
        D.is("book(NONE, 0)", x.book(NONE, 0), 0);
        x.lodger(4, 4);
        x.hang(3, false);
        D.is("back()", x.back(), 0);
        D.is("about(0)", x.about(0), 0);
        D.is("is(3)", x.is(3), 8190);
        D.is("undo()", x.undo(), NONE);

        D.promise(2, "lodger");
        x = new StairRods();
        for (int[] wrong : new int[][] {{0, 1}, {10, 1}, {1, 0}, {1, 13}, {NONE, 5}, {5, NONE}, {LOW, 1}, {1, HIGH}}) {
            D.is("lodger(" + wrong[0] + ", " + wrong[1] + ")", x.lodger(wrong[0], wrong[1]), NONE);
        }
        for (int i = 0; i < 6; i++) {
            D.is("lodger", x.lodger(9 - i, 12 - i), i);
        }
        D.is("the seventh", x.lodger(1, 1), NONE);
        D.is("about(0)", x.about(0), 6);
        D.is("of(5, 0)", x.of(5, 0), 4);
        D.is("of(5, 1)", x.of(5, 1), 7);

        D.promise(3, "feed");
        x = new StairRods();
        for (int i = 1; i <= 15; i++) {
            D.is("feed", x.feed(0, 0, 0, 0, 0), 20 * i);
        }
        D.is("feed beyond 300", x.feed(0, 0, 0, 0, 0), NONE);
        D.is("about(7)", x.about(7), 300);
        D.is("end(281)", x.end(281), 281);
        D.is("feed beyond 300", x.feed(0, 0, 0, 0, 0), NONE);
        D.is("about(7)", x.about(7), 281);
        D.is("end(0)", x.end(0), 0);
        // hang 3;hang 4;      with the highest byte of each number first
        D.is("feed", x.feed(0x68616e67, 0x20333b68, 0x616e6720, 0x343b2020, 0x20202020), 20);
        D.is("text()", x.text(), 0);
        D.is("played(0)", x.played(0), 0);
        x.hang(3, false);
        D.is("played(0)", x.played(0), 1);
        x.feed(0xff000000, 0, 0, 0, 0);
        D.is("a byte 255", x.text(), NONE);
        D.is("fault(0)", x.fault(0), 1);
        D.is("fault(1)", x.fault(1), 0);

        D.promise(4, "end");
        x = new StairRods();
        D.is("end(1)", x.end(1), NONE);
        D.is("end(NONE)", x.end(NONE), NONE);
        D.is("end(0)", x.end(0), 0);
        x.feed(0, 0, 0, 0, 0);
        D.is("end(21)", x.end(21), NONE);
        D.is("about(7)", x.about(7), 20);
        D.is("end(LOW)", x.end(LOW), NONE);
        D.is("end(20)", x.end(20), 20);
        D.is("end(7)", x.end(7), 7);
        D.is("end(8)", x.end(8), NONE);
        D.is("about(7)", x.about(7), 7);

        D.promise(5, "text");
        x = new StairRods();
        D.is("an empty text", x.text(), 0);
        D.is("fault(0)", x.fault(0), 0);
        D.is("one more", Due.text(x, "hour 1;"), 1);
        D.is("about(7)", x.about(7), 0);
        D.is("one with a fault", Due.text(x, "hour 1"), NONE);
        D.is("about(7) behind a fault", x.about(7), 0);
        D.is("about(1)", x.about(1), 2);
        D.is("the third", Due.text(x, "\n hour\n 1 ;\n"), 2);
        D.is("the fourth", Due.text(x, "hang 1;"), 3);
        D.is("the fifth", Due.text(x, "hang 1;"), NONE);
        D.is("about(7): the tape stays", x.about(7), 7);
        D.is("about(1)", x.about(1), 4);
        D.is("300 bytes", Due.text(new StairRods(), "hears" + " ".repeat(293) + "1;"), 0);

        D.promise(6, "fault");
        x = new StairRods();
        D.is("ahead of any", x.fault(0), NONE);
        D.is("ahead of any", x.fault(1), NONE);
        Due.text(x, "hang");
        D.is("fault(0)", x.fault(0), 1);
        D.is("fault(1)", x.fault(1), 4);
        D.is("fault(2)", x.fault(2), NONE);
        D.is("fault(NONE)", x.fault(NONE), NONE);
        Due.text(x, "hang 1;");
        D.is("fault(0)", x.fault(0), 0);
        D.is("fault(1)", x.fault(1), NONE);
        D.is("fault(HIGH)", x.fault(HIGH), NONE);
        Due.text(x, "");
        Due.text(x, "");
        Due.text(x, "");
        Due.text(x, "hung");
        D.is("a fifth text isn't read", x.fault(0), 0);

        D.promise(7, "by");
        x = house(5);
        D.is("by(0)", x.by(0), false);
        D.is("by(NONE)", x.by(NONE), true);
        Due.text(x, "ticks 70;");
        D.is("a text rules only when it is told", x.ticks(0, 1, true), 5);
        D.is("by(0)", x.by(0), true);
        D.is("about(2)", x.about(2), 0);
        D.is("ticks", x.ticks(0, 1, true), 70);
        D.is("by(1)", x.by(1), false);
        D.is("by(-2)", x.by(-2), false);
        D.is("by(4)", x.by(4), false);
        D.is("about(2)", x.about(2), 0);
        D.is("by(NONE)", x.by(NONE), true);
        D.is("ticks", x.ticks(0, 1, true), 5);
    }

    // ---- the language, as text, fault, ticks and hears show it

    private static void texts() {
        D.promise(5, "text, its faults");
        for (String whole : new String[] {"", " \n ", "ticks weight;hears hour;", "ticks -way*-who;", "hears((((((((1))))))));",
            "ticks near near 1 of 2 of 3;", "ticks if not not 1<2 and 1#2 or 3>=4 then 1 else 2 end;", "hour 60;hour 1;",
            "up 3 by 5;down 1 by 0;", "lodger 9 floor 12;", "unhang 12;hang 001;", "ticks 9999;", "hears cups-1;",
            "ticks floor+trod+late+stair+weight+who+way+hour;", "hang1;", "ticks 000000000000000000000000000001;",
            "ticks(1)+(2)*(3)/(4)-(5);hears cups cups cups cups cups cups cups cups 1+(((((((1)))))));",
            "hang 1;".repeat(24)}) {
            D.is("\"" + whole + "\"", Due.faultOf(whole), NONE);
        }
        faults(1, "?", 0, "hang ?", 5, "hang 1?", 6, "foo 1;", 0, "Hang 1;", 0, "hangs 1;", 0, "hang 1 hang", 7, ";", 0, "hang;", 4);
        faults(1, "ticks;", 5, "ticks 1", 7, "ticks 1 ", 8, "ticks 1 2;", 8, "ticks 1+;", 8, "ticks (1;", 8, "ticks 1);", 7);
        faults(1, "ticks foo;", 6, "ticks by;", 6, "hears foo;", 6, "ticks not 1<2;", 6, "ticks +1;", 6, "ticks 1<2;", 7);
        faults(1, "ticks if 1 then 1 else 1 end;", 11, "ticks if 1<2 else", 13, "ticks if 1<2 then 1 end;", 20);
        faults(1, "ticks if (1<2) then", 11, "ticks if 1<2<3", 12, "ticks if 1=<2", 11, "ticks if 1<2 then 1 else 1;", 26);
        faults(1, "lodger 1 by 1;", 9, "lodger 1 1;", 9, "up 1 floor 1;", 5, "up 1 by;", 7, "hour hour;", 5, "hour;", 4);
        faults(1, "weight 1;", 0, "hears 1 weight;", 8, "ticks near 1;", 12, "ticks 10 000;", 9, "hang 1;10000", 7);
        faults(1, "hang 1;\t", 7, "hang 1;\u0000", 7, "ticks 1 10000;", 8, "lodger weight", 7, "hang -1;", 5, "hang\n", 5);
        faults(2, "ticks 10000;", 6, "ticks 1+99999999999999999999;", 8, "lodger 0", 7, "lodger 10", 7, "lodger 1 floor 0", 15);
        faults(2, "lodger 1 floor 13", 15, "up 0", 3, "up 4", 3, "down 4 by 1;", 5, "down 3 by 6", 10, "hang 0", 5, "hang 13", 5);
        faults(2, "unhang 0", 7, "unhang 13;", 7, "hour 0", 5, "hour 61", 5, "hour 4294967297;", 5);
        faults(3, "ticks (((((((((", 14, "ticks ---------1;", 14, "hears (-(-(-(-(1)))));", 14, "hears --------cups 1;", 14);
        faults(3, "hears near near near near near near near near near", 46, "ticks near 1 of near 1 of near 1 of near 1 of (((((1", 50);
        faults(3, "ticks if not not not not not not not not 1<2", 37, "ticks if ((((((((1", 16, "ticks if 1<2 then --------1", 25);
        faults(3, "ticks if 1<2 then 1 else (((((((1))))))) end*if 1<2 then 1 else ((((((((1", 71);
        faults(4, "ticks 1;ticks 2;", 8, "hears 1;ticks 1;hears", 16, "ticks 1;" + "hang 1;".repeat(23) + "ticks 1;", 169);
        faults(5, "hears weight;", 6, "hears floor", 6, "hears who", 6, "hears trod", 6, "hears way", 6, "hears 1+(late-way", 14);
        faults(5, "ticks way;hears cups way;", 21, "hears near 1 of trod;", 16);
        faults(6, "hang 1;".repeat(25), 168, "hang 1;".repeat(24) + "hears 1;", 168, "hang 1;".repeat(24) + "hour", 168);
        D.is("the 25th can't stand there", Due.faultOf("hang 1;".repeat(24) + "foo;"), 1168);

        D.promise(15, "ticks, the language");
        says("7", 7, "2+3*4", 14, "(2+3)*4", 20, "20-5-3", 12, "7/2", 3, "24/4/2", 3, "24/(4/2)", 12, "7/0", 0, "0-7/2+10", 7);
        says("-7/2+10", 7, "-3*-4", 12, "5-9", 0, "99+1", 99, "9999", 99, "--8", 8, "2*-3+10", 4);
        // what is above 1000000, or below the same less, is that
        says("1000*1000*2/9999/100", 1, "(0-1000)*1000*2/9999/10+11", 1, "9999*9999-999*1000-990", 10);
        says("9999*9999+1-999*1000-990", 10, "-9999*9999-9999+999*1000+1005", 5, "9999*9999*9999/5000/4", 50);
        says("(9999*9999+9999*9999)/5000/4", 50, "near(9999*9999)of 999", 1, "near(-9999*9999-1)of 999", 1);
        says("near 13 of 10", 3, "near 17 of 10", 3, "near 15 of 10", 5, "near 20 of 10", 0, "near-17 of 10", 3, "near 17 of-10", 3);
        says("near 17 of 0", 17, "near-17 of 0", 17, "near 3 of 8", 3, "near 0 of 5", 0, "near 1 of 1", 0, "near 7 of 4*3", 3);
        says("near 7 of(4*3)", 5, "near near 13 of 10 of 4", 1, "10*near 13 of near 14 of 9", 10);
        says("weight", 5, "floor", 7, "who", 0, "trod", 0, "hour", 0, "late", 0, "stair", 4, "way", 1, "weight*stair+floor", 27);
        says("cups 1", 1, "cups 12", 1, "cups 0", 0, "cups 13", 0, "cups-1", 0, "cups(33)", 0, "cups cups 5+4", 5, "cups stair", 1);
        says("if 1<2 then 3 else 4 end", 3, "if 2<2 then 3 else 4 end", 4, "if 2<=2 then 3 else 4 end", 3, "if 3>2 then 3 else 4 end", 3);
        says("if 2>2 then 3 else 4 end", 4, "if 2>=2 then 3 else 4 end", 3, "if 2=2 then 3 else 4 end", 3, "if 2#2 then 3 else 4 end", 4);
        says("if not 1<2 then 3 else 4 end", 4, "if not not 1<2 then 3 else 4 end", 3, "if 1<2 or 1<2 and 2<1 then 3 else 4 end", 3);
        says("if 3<=2 then 3 else 4 end", 4, "if 1>=2 then 3 else 4 end", 4, "if 1=2 then 3 else 4 end", 4, "if 1#2 then 3 else 4 end", 3);
        says("if 2<1 and 1<2 or 1<2 then 3 else 4 end", 3, "if not 2<1 and 2<1 then 3 else 4 end", 4, "if 2<1 or 2<1 then 3 else 4 end", 4);
        says("if 1<2 and 3#4 then 3 else 4 end", 3, "1+if 2=3 then 1 else if 1=1 then 8 else 9 end end*2", 17);
        D.is("way down", Due.ticksBy("way*9+1", 4, false), 1);
        D.is("stair", Due.ticksBy("stair", 12, false), 12);

        D.promise(16, "hears, the language");
        StairRods x = ruled("hears stair*10+hour+late;", 5);
        D.is("hears(3)", x.hears(3), 30);
        D.is("hears(12)", x.hears(12), 99);
        x.hour(1);
        D.is("hears(3) an hour later", x.hears(3), 34);
        x = ruled("hears 0-3;ticks 0-3;", 9);
        D.is("hears(1)", x.hears(1), 0);
        D.is("nothing is heard of 0", x.tread(0, true, 1), 0);
        D.is("book(NONE, 0)", x.book(NONE, 0), 0);
    }

    /** Texts and the places of their faults, by turns. */
    private static void faults(int what, Object... rows) {
        for (int i = 0; i < rows.length; i += 2) {
            D.is("\"" + rows[i] + "\"", Due.faultOf((String) rows[i]), what * 1000 + (Integer) rows[i + 1]);
        }
    }

    /** Sums and what ticks says by them on STAIR 4, going up, by turns. */
    private static void says(Object... rows) {
        for (int i = 0; i < rows.length; i += 2) {
            D.is("ticks " + rows[i] + ";", Due.ticksBy((String) rows[i], 4, true), (Integer) rows[i + 1]);
        }
    }

    // ---- 8 .. 13

    private static void steps() {
        D.promise(8, "tread");
        StairRods x = house(9, 7);
        D.is("down from the hall", x.tread(0, false, 1), NONE);
        D.is("nobody", x.tread(2, true, 1), NONE);
        D.is("nobody", x.tread(NONE, true, 1), NONE);
        D.is("0 places", x.tread(0, true, 0), NONE);
        D.is("4 places", x.tread(0, true, 4), NONE);
        D.is("HIGH places", x.tread(0, true, HIGH), NONE);
        D.is("LOW places", x.tread(0, false, LOW), NONE);
        D.is("-1 places", x.tread(0, false, -1), NONE);
        D.is("no step was made", x.about(3), 0);
        D.is("9 is heard", x.tread(0, true, 3), 9);
        D.is("7 isn't", x.tread(1, true, 3), 0);
        x.tread(0, true, 3);
        x.tread(0, true, 3);
        D.is("up to 11", x.tread(0, true, 2), 9);
        D.is("beyond 12", x.tread(0, true, 2), NONE);
        D.is("to 12", x.tread(0, true, 1), 9);
        D.is("of(0, 2)", x.of(0, 2), 12);
        D.is("of(0, 3)", x.of(0, 3), 5);
        D.is("beyond 12", x.tread(0, true, 1), NONE);
        x.hang(10, false);
        D.is("no cup there", x.tread(0, false, 2), 0);
        D.is("past it", x.tread(0, false, 1), 9);
        x = ruled("ticks trod*10+9;hears 9;", 1);
        D.is("trod is as ahead of the tread", x.tread(0, true, 1), 9);
        D.is("the second one", x.tread(0, true, 1), 19);
        D.is("in the hall nothing is heard", x.tread(0, false, 2), 0);
        x = ruled("ticks 5+way*4;hears stair+5;", 1);
        D.is("up 1: 9 by 6", x.tread(0, true, 1), 9);
        D.is("up 3 more: 9 by 9", x.tread(0, true, 3), 9);
        D.is("up to 5: 9 by 10", x.tread(0, true, 1), 0);
        D.is("down to 2: 5 by 7", x.tread(0, false, 3), 0);
        x = ruled("ticks 1;" + "up 1 by 0;down 1 by 0;".repeat(11), 1);
        for (int i = 0; i < 455; i++) {
            x.played(0);
        }
        D.is("of(0, 3): 9999 at most", x.of(0, 3), 9999);
        D.is("tread", x.tread(0, true, 1), 0);
        D.is("of(0, 3)", x.of(0, 3), 9999);
        D.is("of(0, 2)", x.of(0, 2), 1);

        D.promise(9, "hang");
        x = new StairRods();
        D.is("hang(5, true)", x.hang(5, true), false);
        D.is("hang(5, false)", x.hang(5, false), true);
        D.is("hang(5, false)", x.hang(5, false), false);
        D.is("is(3)", x.is(3), 8190 - 32);
        D.is("hang(5, true)", x.hang(5, true), true);
        D.is("is(3)", x.is(3), 8190);
        D.is("about(3)", x.about(3), 2);
        for (int wrong : new int[] {0, 13, NONE, 37, LOW, HIGH}) {
            D.is("hang(" + wrong + ", false)", x.hang(wrong, false), false);
            D.is("hang(" + wrong + ", true)", x.hang(wrong, true), false);
        }
        D.is("about(3)", x.about(3), 2);

        D.promise(10, "hour");
        x = house(5, 9);
        // 293: LATE 3; 9817: 2 up to 2, 8 is heard; 23449: 2 up to 2, 12 is heard; then 18012
        D.is("hour(1)", x.hour(1), 2);
        D.is("is(0)", x.is(0), 1);
        D.is("is(1)", x.is(1), 18012);
        D.is("is(2)", x.is(2), 3);
        D.is("of(0, 2)", x.of(0, 2), 2);
        D.is("of(1, 2)", x.of(1, 2), 2);
        D.is("book(0, 0): HOUR is one more at the end", x.book(0, 0), 0);
        D.is("book(1, 2)", x.book(1, 2), 12);
        D.is("about(3)", x.about(3), 1);
        for (int wrong : new int[] {0, 61, NONE, LOW, HIGH}) {
            D.is("hour(" + wrong + ")", x.hour(wrong), NONE);
        }
        x = house();
        x.hour(1);
        D.is("one draw without lodgers", x.is(1), 9817);
        x.hour(60);
        D.is("steps are kept to 30", x.about(3), 30);
        x = house();
        for (int i = 0; i < 166; i++) {
            x.hour(60);
        }
        D.is("is(0)", x.is(0), 9960);
        D.is("hour(40)", x.hour(40), NONE);
        D.is("is(0)", x.is(0), 9960);
        D.is("hour(38)", x.hour(38), 0);
        D.is("hour(2)", x.hour(2), NONE);
        D.is("hour(1)", x.hour(1), 0);
        D.is("is(0)", x.is(0), 9999);
        D.is("hour(1)", x.hour(1), NONE);
        D.is("nights", x.nights(1, 40), 9999);

        D.promise(11, "played");
        x = house();
        Due.text(x, "hears 1;lodger 3 floor 2;ticks 50;up 3 by 0;hour 2;unhang 12;down 3 by 0;");
        D.is("played(1)", x.played(1), -2);
        D.is("played(NONE)", x.played(NONE), -2);
        // 293: LATE; 9817: 2 up to 5; 23449: LATE 9; 18012 mod 4: 0, 1 up to 6; 3 down to 3
        D.is("played(0)", x.played(0), NONE);
        D.is("of(0, 0)", x.of(0, 0), 3);
        D.is("of(0, 2)", x.of(0, 2), 3);
        D.is("of(0, 3)", x.of(0, 3), 4);
        D.is("is(0)", x.is(0), 2);
        D.is("about(3): a tread, two hours, a cup, a tread", x.about(3), 5);
        D.is("played, but not ruled by it", x.about(2), NONE);
        D.is("again: unhang can't be", x.played(0), 5);
        D.is("what was done stays", x.about(0), 2);
        D.is("is(0)", x.is(0), 4);
        Due.text(x, "lodger 1 floor 1;".repeat(5));
        D.is("the seventh lodger", x.played(1), 4);
        D.is("about(0)", x.about(0), 6);
        x = house();
        Due.text(x, "hour 60;".repeat(24));
        for (int i = 0; i < 6; i++) {
            D.is("played(0)", x.played(0), NONE);
        }
        D.is("is(0)", x.is(0), 8640);
        D.is("those that can pass do", x.played(0), 22);
        D.is("is(0)", x.is(0), 9999);
        D.is("none can pass", x.played(0), 0);
        x.undo();
        x.undo();
        Due.text(x, "hour 2;hour 1;");
        D.is("9999 can be come to", x.played(1), 1);
        D.is("is(0)", x.is(0), 9999);
        x = house();
        Due.text(x, "up 1 by 0;");
        D.is("nobody treads", x.played(0), 0);
        Due.text(x, "");
        D.is("an empty text", x.played(1), NONE);

        D.promise(12, "nights");
        x = house(9, 9);
        for (int[] wrong : new int[][] {{NONE, 1}, {10000, 1}, {0, 0}, {0, 41}, {LOW, 1}, {0, HIGH}}) {
            D.is("nights(" + wrong[0] + ", " + wrong[1] + ")", x.nights(wrong[0], wrong[1]), NONE);
        }
        D.is("about(3)", x.about(3), 0);
        // 293 mod 6 is 5: an hour from 9817 on: LATE 7; 23449 mod 4: 1, 2 up; 18012 mod 4: 0, 1 up
        D.is("nights(0, 1)", x.nights(0, 1), 1);
        D.is("is(2)", x.is(2), 7);
        D.is("of(0, 2)", x.of(0, 2), 2);
        D.is("of(1, 2)", x.of(1, 2), 1);
        D.is("ledger(NONE)", x.ledger(NONE), 32);
        D.is("about(3)", x.about(3), 1);
        // X 295 mod 6 is 1: LODGER 295 mod 2, 1, treads 2 down: it can't
        D.is("nights(1, 1)", x.nights(1, 1), 1);
        D.is("of(1, 2)", x.of(1, 2), 1);
        D.is("is(1)", x.is(1), (295 * 557 + 431) % 30763);
        x.tread(1, true, 3);
        x.nights(1, 1);
        D.is("of(1, 2)", x.of(1, 2), 2);
        // X 297 mod 6 is 3: 297 / 6 mod 12 is 1: the cup of stair 2 is taken down
        x.nights(2, 1);
        D.is("is(3)", x.is(3), 8190 - 4);
        x.nights(2, 1);
        D.is("is(3)", x.is(3), 8190 - 4);
        // X 20291 mod 6 is 5: an hour
        D.is("nights(9999, 1)", x.nights(9999, 1), 2);
        D.is("undo()", x.undo(), 6);
        D.is("is(0)", x.is(0), 1);
        D.is("without lodgers", new StairRods().nights(1, 1), 0);
        // 333 mod 6 is 3: 8's cup is taken down; then 1334 mod 6 is 2: 7's is hung
        x = house();
        x.hang(7, false);
        x.nights(20, 2);
        D.is("is(3)", x.is(3), 8190 - 256);
        // 447 mod 6 is 3: 3's cup is taken down; then 3306 mod 6 is 0: LODGER 0 treads 1 up
        x = house(9, 9);
        x.nights(77, 2);
        D.is("is(3)", x.is(3), 8190 - 8);
        D.is("of(0, 2)", x.of(0, 2), 1);
        D.is("of(1, 2)", x.of(1, 2), 0);
        D.is("book(0, 1)", x.book(0, 1), 1);
        D.is("is(1)", x.is(1), (3306 * 557 + 431) % 30763);
        D.is("undo()", x.undo(), 0);
        D.is("is(1)", x.is(1), 293);

        D.promise(13, "undo");
        x = house(9);
        D.is("undo()", x.undo(), NONE);
        x.tread(0, true, 2);
        x.hang(3, false);
        x.hour(2);
        x.nights(77, 40);
        D.is("about(3)", x.about(3), 5);
        D.is("undo()", x.undo(), 4);
        D.is("is(0)", x.is(0), 2);
        D.is("undo()", x.undo(), 3);
        D.is("is(0)", x.is(0), 1);
        D.is("is(2)", x.is(2), 3);
        D.is("undo()", x.undo(), 2);
        D.is("is(0)", x.is(0), 0);
        D.is("is(1)", x.is(1), 293);
        D.is("is(2)", x.is(2), 0);
        D.is("is(3)", x.is(3), 8190 - 8);
        x.lodger(9, 1);
        D.is("undo()", x.undo(), 1);
        D.is("is(3)", x.is(3), 8190);
        D.is("of(0, 2)", x.of(0, 2), 2);
        D.is("book(NONE, 0)", x.book(NONE, 0), 1);
        D.is("undo()", x.undo(), 0);
        D.is("of(0, 2)", x.of(0, 2), 0);
        D.is("of(0, 3)", x.of(0, 3), 0);
        D.is("book(NONE, 0)", x.book(NONE, 0), 0);
        D.is("told since, and in the hall", x.of(1, 2), 0);
        D.is("undo()", x.undo(), NONE);
        x = house(9);
        for (int i = 0; i < 35; i++) {
            x.hang(1, i % 2 == 1);
        }
        for (int left = 29; left >= 0; left--) {
            D.is("undo()", x.undo(), left);
        }
        D.is("undo()", x.undo(), NONE);
        D.is("five steps are beyond it", x.is(3), 8190 - 2);
    }

    // ---- 14 .. 18, 60

    private static void asking() {
        D.promise(14, "of");
        StairRods x = house(4, 6);
        x.print(1, 6);
        x.tread(1, true, 3);
        int[] due = {6, 2, 3, 1, 6};
        for (int what = 0; what <= 4; what++) {
            D.is("of(1, " + what + ")", x.of(1, what), due[what]);
        }
        D.is("of(0, 4)", x.of(0, 4), 0);
        D.is("of(1, 5)", x.of(1, 5), NONE);
        D.is("of(1, NONE)", x.of(1, NONE), NONE);
        D.is("of(2, 0)", x.of(2, 0), NONE);
        D.is("of(NONE, 0)", x.of(NONE, 0), NONE);
        D.is("of(HIGH, HIGH)", x.of(HIGH, HIGH), NONE);

        D.promise(15, "ticks");
        x = house(4, 6);
        x.hour(1);
        D.is("WEIGHT and LATE", x.ticks(1, 12, true), 9);
        D.is("WEIGHT and LATE", x.ticks(0, 1, false), 7);
        D.is("ticks(0, 0, true)", x.ticks(0, 0, true), NONE);
        D.is("ticks(0, 13, true)", x.ticks(0, 13, true), NONE);
        D.is("ticks(2, 1, true)", x.ticks(2, 1, true), NONE);
        D.is("ticks(NONE, 1, true)", x.ticks(NONE, 1, true), NONE);
        D.is("ticks(LOW, HIGH, true)", x.ticks(LOW, HIGH, true), NONE);
        x = ruled("hears 3;", 4);
        D.is("a text without ticks", x.ticks(0, 1, true), 4);
        x = ruled("ticks who*50+way*9+stair+cups stair*20;", 4, 4);
        D.is("ticks(1, 3, false)", x.ticks(1, 3, false), 73);
        D.is("ticks(0, 3, true)", x.ticks(0, 3, true), 32);
        x.hang(3, false);
        D.is("as now", x.ticks(0, 3, true), 12);
        D.is("ticks(1, 3, true) without a cup", x.ticks(1, 3, true), 62);

        D.promise(16, "hears");
        x = house();
        D.is("hears(1)", x.hears(1), 8);
        D.is("hears(12)", x.hears(12), 8);
        for (int wrong : new int[] {0, 13, NONE, LOW, HIGH}) {
            D.is("hears(" + wrong + ")", x.hears(wrong), NONE);
        }
        x = ruled("ticks 3;");
        D.is("a text without hears", x.hears(1), 8);
        x = ruled("hears if stair>6 then 200 else 0-stair end;");
        D.is("hears(6)", x.hears(6), 0);
        D.is("hears(7)", x.hears(7), 99);

        D.promise(17, "is");
        x = house();
        x.hour(2);
        x.hang(12, false);
        D.is("is(0)", x.is(0), 2);
        D.is("is(1)", x.is(1), 23449);
        D.is("is(2)", x.is(2), 7);
        D.is("is(3)", x.is(3), 4094);
        for (int wrong : new int[] {4, NONE, -2, LOW, HIGH}) {
            D.is("is(" + wrong + ")", x.is(wrong), -2);
        }

        D.promise(18, "book");
        x = house(9);
        D.is("book(0, 0)", x.book(0, 0), -2);
        x.tread(0, true, 2);
        x.hour(1);
        x.tread(0, true, 1);
        // in the hour 9817 mod 4 is 1: 2 up to 4, by LATE 3
        int[][] lines = {{0, 2, 9}, {0, 4, 12}, {1, 5, 12}};
        D.is("book(NONE, 0)", x.book(NONE, 0), 3);
        for (int i = 0; i < 3; i++) {
            for (int what = 0; what < 3; what++) {
                D.is("book(" + i + ", " + what + ")", x.book(i, what), lines[i][what]);
            }
        }
        D.is("book(3, 0)", x.book(3, 0), -2);
        D.is("book(0, 3)", x.book(0, 3), -2);
        D.is("book(0, NONE)", x.book(0, NONE), -2);
        D.is("book(-2, 0)", x.book(-2, 0), -2);
        D.is("book(HIGH, 0)", x.book(HIGH, 0), -2);
        x = ruled("ticks trod+1;hears 1;", 9);
        for (int i = 0; i < 35; i++) {
            x.tread(0, i % 4 < 2, 1 + i % 2);
        }
        // every fourth tread ends in the hall: 1, 3, 2, 0 are its places
        D.is("book(NONE, 0)", x.book(NONE, 0), 27);
        for (int i = 0; i < 8; i++) {
            x.tread(0, i % 2 == 0, 1);
        }
        D.is("30 at most", x.book(NONE, 0), 30);
        D.is("the eldest goes first", x.book(0, 2), 7);
        D.is("the latest", x.book(29, 2), 43);

        D.promise(60, "about");
        x = house(1, 2, 3);
        Due.text(x, "");
        Due.text(x, "");
        x.by(1);
        x.hang(1, false);
        x.listen(2);
        x.listen(2);
        x.code(12);
        x.said(0, 1, 1);
        x.said(0, 1, 1);
        x.feed(1, 2, 3, 4, 5);
        int[] about = {3, 2, 1, 1, 2, 1, 2, 20};
        for (int what = 0; what < 8; what++) {
            D.is("about(" + what + ")", x.about(what), about[what]);
        }
        for (int wrong : new int[] {8, NONE, -2, LOW, HIGH}) {
            D.is("about(" + wrong + ")", x.about(wrong), -2);
        }
    }

    // ---- 19 .. 26

    private static void ways() {
        D.promise(19, "foretold");
        StairRods x = house(5, 9);
        D.is("foretold(1, 0, 0)", x.foretold(1, 0, 0), 2);
        D.is("foretold(1, 1, 1)", x.foretold(1, 1, 1), 1);
        D.is("nothing is done", x.is(1), 293);
        D.is("nothing is done", x.about(3), 0);
        for (int n = 1; n <= 60; n++) {
            StairRods y = house(5, 9);
            y.hour(n);
            for (int lodger = 0; lodger < 2; lodger++) {
                D.is("foretold(" + n + ", " + lodger + ", 0)", x.foretold(n, lodger, 0), y.of(lodger, 2));
                D.is("foretold(" + n + ", " + lodger + ", 1)", x.foretold(n, lodger, 1), y.of(lodger, 3));
            }
        }
        for (int[] wrong : new int[][] {{0, 0, 0}, {61, 0, 0}, {1, 2, 0}, {1, NONE, 0}, {1, 0, 2}, {1, 0, NONE}, {LOW, 0, 0}}) {
            D.is("foretold", x.foretold(wrong[0], wrong[1], wrong[2]), NONE);
        }
        x = house();
        for (int i = 0; i < 166; i++) {
            x.hour(60);
        }
        x.hour(37);
        x.lodger(1, 1);
        int two = x.foretold(2, 0, 1);
        D.is("those that can pass", x.foretold(60, 0, 1), two);
        x.hour(2);
        D.is("as foretold", x.of(0, 3), two);
        D.is("at 9999", x.foretold(60, 0, 1), two);

        D.promise(20, "quiet");
        x = house(9);
        for (int stair : new int[] {2, 5, 6, 9}) {
            x.hang(stair, false);
        }
        // quiet are 0, 2, 5, 6, 9
        D.is("to 9", x.quiet(0, 0, 9, NONE), 4);
        int[] way = {2, 5, 6, 9};
        for (int i = 0; i < 4; i++) {
            D.is("quiet(0, 0, 9, " + i + ")", x.quiet(0, 0, 9, i), way[i]);
        }
        D.is("no such place in it", x.quiet(0, 0, 9, 4), -2);
        D.is("quiet(0, 0, 9, HIGH)", x.quiet(0, 0, 9, HIGH), -2);
        D.is("quiet(0, 0, 9, -2)", x.quiet(0, 0, 9, -2), -2);
        D.is("down again", x.quiet(0, 9, 0, NONE), 4);
        D.is("down again", x.quiet(0, 9, 0, 0), 6);
        D.is("from a loud place", x.quiet(0, 3, 9, NONE), 2);
        D.is("from a loud place", x.quiet(0, 3, 9, 0), 6);
        D.is("to a loud place", x.quiet(0, 2, 3, NONE), -2);
        D.is("to itself", x.quiet(0, 3, 3, NONE), 0);
        D.is("to itself", x.quiet(0, 3, 3, 0), -2);
        D.is("to 12", x.quiet(0, 0, 12, NONE), -2);
        for (int[] wrong : new int[][] {{1, 0, 1}, {NONE, 0, 1}, {0, 13, 1}, {0, 0, 13}, {0, NONE, 1}, {0, 1, NONE}}) {
            D.is("quiet, wrong", x.quiet(wrong[0], wrong[1], wrong[2], NONE), -2);
        }
        x = house(1);
        D.is("the lowest next place", x.quiet(0, 0, 5, 0), 2);
        D.is("the lowest next place", x.quiet(0, 12, 8, 0), 9);
        x = ruled("ticks 9+way;hears 10;", 1);
        x.hang(4, false);
        // all is quiet going down, but for 4 nothing going up: 0 to 3 can't be
        D.is("down is quiet", x.quiet(0, 7, 3, NONE), 2);
        D.is("down is quiet", x.quiet(0, 7, 3, 0), 4);
        D.is("up, then down", x.quiet(0, 1, 2, NONE), 2);
        D.is("up, then down", x.quiet(0, 1, 2, 0), 4);
        D.is("0 is too far from 4", x.quiet(0, 0, 2, NONE), -2);

        D.promise(21, "ways");
        long[] due = {1, 1, 2, 4, 7, 13, 24, 44, 81, 149, 274, 504, 927};
        for (int a = 0; a <= 12; a++) {
            for (int b = a; b <= 12; b++) {
                D.is("ways(" + a + ", " + b + ")", x.ways(a, b), due[b - a]);
            }
        }
        for (int[] wrong : new int[][] {{1, 0}, {NONE, 3}, {3, 13}, {13, 13}, {LOW, HIGH}, {12, 11}}) {
            D.is("ways, wrong", x.ways(wrong[0], wrong[1]), NONE);
        }

        D.promise(22, "unheard");
        x = house(9, 1);
        D.is("a light one", x.unheard(1, 0, 12), 927);
        D.is("a heavy one", x.unheard(0, 0, 12), 0);
        D.is("to itself", x.unheard(0, 4, 4), 1);
        for (int stair : new int[] {1, 2, 3, 5, 6}) {
            x.hang(stair, false);
        }
        // of 0 .. 6 but 4: to 1 1, to 2 2, to 3 4, to 5 6, to 6 10
        D.is("to 3", x.unheard(0, 0, 3), 4);
        D.is("to 4", x.unheard(0, 0, 4), 0);
        D.is("to 5", x.unheard(0, 0, 5), 6);
        D.is("to 6", x.unheard(0, 0, 6), 10);
        D.is("from a loud place", x.unheard(0, 4, 6), 2);
        for (int[] wrong : new int[][] {{2, 0, 1}, {NONE, 0, 1}, {0, 1, 0}, {0, NONE, 1}, {0, 1, 13}}) {
            D.is("unheard, wrong", x.unheard(wrong[0], wrong[1], wrong[2]), NONE);
        }
        x = ruled("ticks 20-way*20;", 1);
        D.is("down is not asked", x.unheard(0, 0, 3), 4);

        D.promise(23, "waysBy");
        D.is("waysBy(2, 8, 1)", x.waysBy(2, 8, 1), 0);
        D.is("waysBy(2, 8, 2)", x.waysBy(2, 8, 2), 1);
        D.is("waysBy(2, 8, 3)", x.waysBy(2, 8, 3), 7);
        D.is("waysBy(2, 8, 4)", x.waysBy(2, 8, 4), 10);
        D.is("waysBy(2, 8, 5)", x.waysBy(2, 8, 5), 5);
        D.is("waysBy(2, 8, 6)", x.waysBy(2, 8, 6), 1);
        D.is("waysBy(2, 8, 7)", x.waysBy(2, 8, 7), 0);
        long sum = 0;
        for (int n = 0; n <= 12; n++) {
            sum += x.waysBy(0, 12, n);
        }
        D.is("all together", sum, 927);
        D.is("waysBy(0, 12, 12)", x.waysBy(0, 12, 12), 1);
        D.is("waysBy(5, 5, 0)", x.waysBy(5, 5, 0), 1);
        D.is("waysBy(5, 5, 1)", x.waysBy(5, 5, 1), 0);
        for (int[] wrong : new int[][] {{0, 1, 13}, {0, 1, NONE}, {1, 0, 1}, {NONE, 0, 1}, {0, 13, 5}, {0, 1, HIGH}}) {
            D.is("waysBy, wrong", x.waysBy(wrong[0], wrong[1], wrong[2]), NONE);
        }

        D.promise(24, "loudest");
        x = ruled("ticks if way=1 then near stair of 7*10 else stair*2 end;hears 9;", 1);
        // up 10 20 30 30 20 10 - 10 20 30 30 20; down 10 from 5 on, 24 on 12
        D.is("of like ones the lowest", x.loudest(0), 3);
        x.hang(3, false);
        D.is("without a cup", x.loudest(0), 4);
        x.hang(4, false);
        x.hang(10, false);
        x.hang(11, false);
        D.is("down", x.loudest(0), 12);
        D.is("loudest(1)", x.loudest(1), NONE);
        D.is("loudest(NONE)", x.loudest(NONE), NONE);
        D.is("none is heard", house(7).loudest(0), NONE);

        D.promise(25, "heardOn");
        D.is("up", x.heardOn(0, true), 2 + 4 + 32 + 64 + 256 + 512 + 4096);
        D.is("down", x.heardOn(0, false), 32 + 64 + 128 + 256 + 512 + 4096);
        D.is("heardOn(1, true)", x.heardOn(1, true), NONE);
        D.is("heardOn(NONE, false)", x.heardOn(NONE, false), NONE);
        D.is("heardOn(HIGH, false)", x.heardOn(HIGH, false), NONE);
        D.is("8 is enough", house(8).heardOn(0, false), 8190);
        D.is("7 isn't", house(7).heardOn(0, false), 0);

        D.promise(26, "cupRow");
        x = house();
        D.is("cupRow()", x.cupRow(), 12);
        x.hang(6, false);
        D.is("cupRow()", x.cupRow(), 6);
        x.hang(7, false);
        D.is("cupRow()", x.cupRow(), 5);
        for (int stair = 1; stair <= 12; stair++) {
            x.hang(stair, false);
        }
        D.is("cupRow()", x.cupRow(), 0);
        x.hang(12, true);
        D.is("cupRow()", x.cupRow(), 1);
    }

    // ---- 27 .. 34

    private static void moods() {
        D.promise(27, "change");
        StairRods x = house();
        D.is("change(2, 1, 9)", x.change(2, 1, 9), true);
        D.is("change(0, 0, 0)", x.change(0, 0, 0), true);
        for (int[] wrong : new int[][] {{3, 0, 1}, {0, 3, 1}, {NONE, 0, 1}, {0, NONE, 1}, {0, 0, 10}, {0, 0, NONE}}) {
            D.is("change, wrong", x.change(wrong[0], wrong[1], wrong[2]), false);
        }
        x.listen(0);
        x.listen(0);
        D.is("weighed(): seven of 1, one of 9, one of 0", x.weighed(), 16);

        D.promise(28, "sound");
        x = house();
        D.is("sound(2, 1, 9)", x.sound(2, 1, 9), true);
        D.is("sound(0, 1, 0)", x.sound(0, 1, 0), true);
        for (int[] wrong : new int[][] {{3, 0, 1}, {0, 3, 1}, {NONE, 0, 1}, {0, NONE, 1}, {0, 0, 10}, {0, 0, NONE}}) {
            D.is("sound, wrong", x.sound(wrong[0], wrong[1], wrong[2]), false);
        }
        x.listen(1);
        D.is("weighed()", x.weighed(), 10);

        D.promise(29, "listen");
        x = house();
        D.is("listen(NONE)", x.listen(NONE), 0);
        for (int i = 1; i <= 6; i++) {
            D.is("listen", x.listen(i % 3), i);
        }
        D.is("the seventh", x.listen(0), -2);
        D.is("about(4)", x.about(4), 6);
        D.is("listen(NONE)", x.listen(NONE), 0);
        for (int wrong : new int[] {3, -2, LOW, HIGH}) {
            D.is("listen(" + wrong + ")", x.listen(wrong), -2);
        }
        D.is("about(4)", x.about(4), 0);

        D.promise(30, "weighed");
        D.is("weighed()", x.weighed(), 1);
        for (int i = 0; i < 3; i++) {
            for (int j = 0; j < 3; j++) {
                x.change(i, j, 9);
                x.sound(i, j, 9);
            }
        }
        long due = 1;
        for (int i = 0; i < 6; i++) {
            x.listen(i % 3);
            due *= i == 0 ? 27 : 243;
            D.is("weighed()", x.weighed(), due);
        }

        // 0 goes to 1 alone (3), 1 to 2 alone (2), 2 to 0 and 2; the sound 0 is never in 2, 1 is heavier there
        D.promise(31, "mood");
        x = house();
        int[][] change = {{0, 3, 0}, {0, 0, 2}, {1, 0, 4}};
        int[][] sound = {{1, 2, 1}, {5, 1, 1}, {0, 6, 1}};
        for (int i = 0; i < 3; i++) {
            for (int j = 0; j < 3; j++) {
                x.change(i, j, change[i][j]);
                x.sound(i, j, sound[i][j]);
            }
        }
        x.listen(0);
        x.listen(1);
        x.listen(1);
        // 0 1 2: 1*3*1*2*6 = 36; 1 2 0: 5*2*6*1*2 = 120; 1 2 2: 5*2*6*4*6 = 1440; all 1596
        D.is("weighed()", x.weighed(), 1596);
        D.is("mood(0, 0, false)", x.mood(0, 0, false), 3);
        D.is("mood(0, 0, true)", x.mood(0, 0, true), 133);
        D.is("mood(0, 2, false)", x.mood(0, 2, false), 0);
        D.is("mood(0, 2, true)", x.mood(0, 2, true), 1);
        D.is("mood(2, 0, false)", x.mood(2, 0, false), 10);
        D.is("mood(2, 0, true)", x.mood(2, 0, true), 133);
        D.is("mood(2, 2, false)", x.mood(2, 2, false), 123);
        for (int[] wrong : new int[][] {{3, 0}, {NONE, 0}, {0, 3}, {0, NONE}, {LOW, 0}, {0, HIGH}}) {
            D.is("mood, wrong", x.mood(wrong[0], wrong[1], true), NONE);
        }

        D.promise(32, "moods");
        D.is("moods(0)", x.moods(0), 3);
        D.is("moods(1)", x.moods(1), 6);
        D.is("moods(2)", x.moods(2), 5);
        D.is("moods(3)", x.moods(3), NONE);
        D.is("moods(NONE)", x.moods(NONE), NONE);

        D.promise(33, "likeliest");
        D.is("likeliest(0)", x.likeliest(0), 1);
        D.is("likeliest(1)", x.likeliest(1), 2);
        D.is("likeliest(2)", x.likeliest(2), 2);
        D.is("likeliest(3)", x.likeliest(3), NONE);
        D.is("likeliest(NONE)", x.likeliest(NONE), NONE);
        StairRods y = house();
        y.listen(0);
        y.listen(0);
        y.change(0, 0, 0);
        D.is("of like ones the lowest first", y.likeliest(0), 0);
        D.is("then the next", y.likeliest(1), 1);
        y.change(2, 0, 2);
        D.is("the heaviest", y.likeliest(0), 2);
        D.is("the heaviest", y.likeliest(1), 0);

        D.promise(34, "next");
        // the last mood is 2 in 36 + 1440, 0 in 120: next 0 1476*1, 2 1476*4, 1 120*3
        // sound 0: 1476*1 + 360*5 = 3276; 1: 1476*2 + 360 + 5904*6 = 38736; 2: 1476 + 360 + 5904 = 7740; all 49752
        D.is("next(0, false)", x.next(0, false), 91);
        D.is("next(0, true)", x.next(0, true), 1382);
        D.is("next(2, false)", x.next(2, false), 215);
        D.is("next(2, true)", x.next(2, true), 1382);
        D.is("next(3, true)", x.next(3, true), NONE);
        D.is("next(NONE, true)", x.next(NONE, true), NONE);
        x.listen(NONE);
        D.is("ahead of any", x.next(0, false), 1);
        D.is("ahead of any", x.next(0, true), 3);
        D.is("ahead of any", x.next(1, false), 1);
        D.is("ahead of any", x.next(1, true), 2);

        D.promise(31, "mood, where none could be");
        x.listen(0);
        x.listen(0);
        x.listen(0);
        // 0 1 2 and 1 2 . need the sound 0 in 2
        D.is("weighed()", x.weighed(), 0);
        D.is("mood(0, 0, false)", x.mood(0, 0, false), NONE);
        D.is("mood(0, 0, true)", x.mood(0, 0, true), NONE);
        D.is("moods(0)", x.moods(0), 0);
        D.is("likeliest(0)", x.likeliest(0), NONE);
        D.is("next(0, false)", x.next(0, false), NONE);
        D.is("next(0, true)", x.next(0, true), NONE);
    }

    // ---- 35 .. 41

    private static void words(StairRods x, int... words) {
        x.code(NONE);
        for (int i = 0; i < words.length; i++) {
            D.is("code(" + words[i] + ")", x.code(words[i]), i + 1);
        }
    }

    private static void codes() {
        D.promise(35, "code");
        StairRods x = house();
        D.is("code(NONE)", x.code(NONE), 0);
        for (int wrong : new int[] {0, 3, 10, 13, 31, 102, 22223, 111111, 222222, -2, LOW, HIGH}) {
            D.is("code(" + wrong + ")", x.code(wrong), -2);
        }
        words(x, 1, 22222, 12, 2);
        D.is("one already", x.code(12), -2);
        D.is("the fifth", x.code(21), 5);
        D.is("the sixth", x.code(11), -2);
        D.is("about(5)", x.about(5), 5);
        D.is("code(NONE)", x.code(NONE), 0);
        D.is("about(5)", x.about(5), 0);

        D.promise(36, "clear");
        D.is("without words", x.clear(), 1);
        words(x, 1, 12, 21);
        D.is("121", x.clear(), 0);
        words(x, 1, 12, 22);
        D.is("read from behind", x.clear(), 1);
        words(x, 11, 12, 21, 22, 1);
        D.is("11 or 1 1", x.clear(), 0);
        words(x, 12);
        D.is("one word", x.clear(), 1);
        words(x, 12, 122, 222);
        D.is("12 222 ..", x.clear(), 1);

        D.promise(37, "doubt");
        D.is("none", x.doubt(), NONE);
        words(x, 1, 11);
        D.is("11", x.doubt(), 2);
        words(x, 1, 122, 21, 2121);
        D.is("2121 is 21 21", x.doubt(), 4);
        words(x, 12, 122, 211, 1);
        D.is("1 211 is 12 1 1", x.doubt(), 4);
        words(x, 12222, 1, 22, 2222);
        D.is("22 22", x.doubt(), 4);
        words(x, 1, 12222, 22);
        D.is("1 22 22 is 12222", x.doubt(), 5);
        words(x, 11111, 111);
        D.is("3 and 5, or 5 and 3", x.doubt(), 8);
        words(x, 1111, 11111);
        D.is("4 and 5, or 5 and 4", x.doubt(), 9);

        D.promise(38, "free");
        x.code(NONE);
        D.is("without words", x.free(), 1);
        words(x, 1, 21, 221, 222);
        D.is("free()", x.free(), 1);
        x.code(2221);
        D.is("2221 begins with 222", x.free(), 0);
        words(x, 21, 2);
        D.is("21 begins with 2", x.free(), 0);
        words(x, 12, 2);
        D.is("12 ends with 2", x.free(), 1);

        D.promise(39, "reads");
        x.code(NONE);
        D.is("without words", x.reads(12), 0);
        words(x, 1, 11, 111);
        D.is("reads(1)", x.reads(1), 1);
        D.is("reads(111)", x.reads(111), 4);
        D.is("reads(11111111)", x.reads(11111111), 81);
        D.is("reads(11211)", x.reads(11211), 0);
        D.is("reads(1110)", x.reads(1110), 0);
        D.is("reads(3)", x.reads(3), 0);
        D.is("reads(99999999)", x.reads(99999999), 0);
        for (int wrong : new int[] {0, NONE, 100000000, LOW, HIGH}) {
            D.is("reads(" + wrong + ")", x.reads(wrong), NONE);
        }
        words(x, 12, 1, 21, 2);
        D.is("reads(121)", x.reads(121), 3);
        D.is("reads(212)", x.reads(212), 3);
        D.is("reads(22222)", x.reads(22222), 1);

        D.promise(40, "unread");
        D.is("all are read", x.unread(), NONE);
        x.code(NONE);
        D.is("without words", x.unread(), 1);
        words(x, 1);
        D.is("unread()", x.unread(), 2);
        words(x, 2);
        D.is("unread()", x.unread(), 1);
        words(x, 11, 12, 21, 22);
        D.is("unread()", x.unread(), 1);

        D.promise(41, "room");
        x.code(NONE);
        D.is("without words", x.room(false), 0);
        D.is("without words", x.room(true), 1);
        words(x, 1, 21, 22);
        D.is("one whole", x.room(false), 1);
        D.is("one whole", x.room(true), 1);
        words(x, 11, 111, 22222);
        D.is("1/4 1/8 1/32", x.room(false), 13);
        D.is("1/4 1/8 1/32", x.room(true), 32);
        words(x, 1, 2, 11, 12, 22);
        D.is("above one", x.room(false), 7);
        D.is("above one", x.room(true), 4);
        words(x, 11111, 11112);
        D.is("1/16", x.room(false), 1);
        D.is("1/16", x.room(true), 16);
    }

    // ---- 42 .. 47

    private static StairRods printed(int... prints) {
        StairRods x = house(new int[prints.length]);
        for (int i = 0; i < prints.length; i++) {
            D.is("lodger", x.lodger(1, 1), i);
            D.is("print(" + i + ", " + prints[i] + ")", x.print(i, prints[i]), true);
        }
        return x;
    }

    private static void prints() {
        D.promise(42, "print");
        StairRods x = house(5);
        D.is("print(0, 8190)", x.print(0, 8190), true);
        D.is("of(0, 4)", x.of(0, 4), 8190);
        D.is("print(0, 0)", x.print(0, 0), true);
        D.is("of(0, 4)", x.of(0, 4), 0);
        for (int wrong : new int[] {1, 3, 8191, 8192, NONE, -2, LOW, HIGH}) {
            D.is("print(0, " + wrong + ")", x.print(0, wrong), false);
        }
        D.is("print(1, 2)", x.print(1, 2), false);
        D.is("print(NONE, 2)", x.print(NONE, 2), false);
        D.is("of(0, 4)", x.of(0, 4), 0);

        D.promise(43, "enough");
        x = house();
        D.is("without lodgers", x.enough(false), 0);
        D.is("without lodgers", x.enough(true), 0);
        x = printed(6);
        D.is("one lodger", x.enough(false), 0);
        D.is("one lodger", x.enough(true), 0);
        x = printed(2, 4, 6, 8);
        // 2 and 4 leave 8 as none: 1 0, 0 1, 1 1, 0 0
        D.is("enough(false)", x.enough(false), 6);
        D.is("enough(true)", x.enough(true), 2);
        x = printed(8190, 8190);
        D.is("no way", x.enough(false), NONE);
        D.is("no way", x.enough(true), NONE);
        x = printed(0, 4096);
        D.is("the last stair", x.enough(false), 4096);
        x = printed(2, 4, 8, 16, 32, 64);
        D.is("all but one", x.enough(false), 62);
        D.is("all but one", x.enough(true), 5);
        x = printed(2 + 16, 2 + 8, 4 + 16, 4 + 8);
        D.is("of like ones the lowest", x.enough(false), 2 + 8);

        D.promise(44, "fits");
        x = printed(6, 10, 8190);
        D.is("fits(6, 0)", x.fits(6, 0), 1);
        D.is("fits(2, 1)", x.fits(2, 1), 3);
        D.is("fits(2, 0)", x.fits(2, 0), 0);
        D.is("fits(0, 12)", x.fits(0, 12), 7);
        D.is("fits(0, 11)", x.fits(0, 11), 3);
        D.is("without lodgers", house().fits(0, 12), 0);
        for (int[] wrong : new int[][] {{1, 0}, {8192, 0}, {NONE, 0}, {6, NONE}, {6, 13}, {6, HIGH}}) {
            D.is("fits, wrong", x.fits(wrong[0], wrong[1]), NONE);
        }

        D.promise(45, "alone");
        D.is("alone(0)", x.alone(0), 0);
        D.is("alone(2)", x.alone(2), 8190 - 2 - 4 - 8);
        D.is("alone(3)", x.alone(3), NONE);
        D.is("alone(NONE)", x.alone(NONE), NONE);
        D.is("one lodger", printed(14).alone(0), 14);

        D.promise(46, "shared");
        D.is("shared()", x.shared(), 2);
        D.is("without lodgers", house().shared(), 0);
        D.is("one lodger", printed(4096).shared(), 4096);
        D.is("at first none", house(1).shared(), 0);

        D.promise(47, "which");
        D.is("without lodgers", house().which(), NONE);
        D.is("one lodger", printed(2).which(), NONE);
        D.is("all alike", printed(6, 6).which(), 1);
        D.is("1 by 2, of like ones the lowest", x.which(), 2);
        D.is("two by two", printed(2, 2 + 32, 2 + 32, 64).which(), 5);
        D.is("the twelfth", printed(0, 4096).which(), 12);
    }

    // ---- 48 .. 51

    private static void laws() {
        D.promise(48, "heavy");
        StairRods x = house();
        D.is("heavy(0, 99)", x.heavy(0, 99), true);
        D.is("heavy(5, 1)", x.heavy(5, 1), true);
        for (int[] wrong : new int[][] {{6, 1}, {NONE, 1}, {0, 0}, {0, 100}, {LOW, HIGH}}) {
            D.is("heavy, wrong", x.heavy(wrong[0], wrong[1]), false);
        }
        D.is("cheapest(2)", x.cheapest(2), 100);

        D.promise(49, "cheapest");
        x = house();
        int[] ones = {0, 2, 5, 8, 12, 16};
        for (int n = 1; n <= 6; n++) {
            D.is("cheapest(" + n + ")", x.cheapest(n), ones[n - 1]);
        }
        int[] weights = {45, 13, 12, 16, 9, 5};
        for (int i = 0; i < 6; i++) {
            x.heavy(i, weights[i]);
        }
        D.is("cheapest(6)", x.cheapest(6), 224);
        D.is("cheapest(1)", x.cheapest(1), 0);
        D.is("cheapest(3)", x.cheapest(3), 45 + 26 + 24);
        for (int wrong : new int[] {0, 7, NONE, LOW, HIGH}) {
            D.is("cheapest(" + wrong + ")", x.cheapest(wrong), NONE);
        }

        D.promise(50, "said");
        x = house(5);
        D.is("said(NONE, 0, 0)", x.said(NONE, 0, 0), 0);
        for (int[] wrong : new int[][] {{1, 1, 1}, {-2, 1, 1}, {0, 0, 1}, {0, 13, 1}, {0, 1, NONE}, {0, 1, 100}}) {
            D.is("said, wrong", x.said(wrong[0], wrong[1], wrong[2]), -2);
        }
        for (int i = 1; i <= 8; i++) {
            D.is("said", x.said(0, 12, 99), i);
        }
        D.is("the ninth", x.said(0, 1, 0), -2);
        D.is("said(NONE, NONE, NONE)", x.said(NONE, NONE, NONE), 0);
        D.is("about(6)", x.about(6), 0);

        D.promise(51, "whose");
        x = house(5, 7);
        D.is("without texts", x.whose(), 0);
        Due.text(x, "ticks weight+stair;");
        Due.text(x, "ticks stair*way+5;");
        Due.text(x, "hears 3;");
        Due.text(x, "ticks 200;");
        D.is("nothing was said", x.whose(), 15);
        x.said(0, 3, 8);
        D.is("5 and 3", x.whose(), 3);
        x.said(1, 3, 10);
        D.is("7 and 3", x.whose(), 1);
        x.said(0, 1, 0);
        D.is("none", x.whose(), 0);
        x.said(NONE, 0, 0);
        x.said(0, 3, 5);
        D.is("WEIGHT and LATE without ticks", x.whose(), 4);
        x.said(NONE, 0, 0);
        x.said(1, 12, 99);
        D.is("99 at most", x.whose(), 8);
        x.said(NONE, 0, 0);
        x.said(0, 3, 8);
        x.hour(1);
        D.is("as now: LATE is 3", x.whose(), 7);
    }

    // ---- 52 .. 57

    private static void sums() {
        D.promise(52, "highest");
        StairRods x = house(1, 2, 3);
        D.is("all in the hall", x.highest(), NONE);
        x.tread(2, true, 3);
        D.is("highest()", x.highest(), 2);
        x.tread(1, true, 3);
        D.is("of like ones the lowest", x.highest(), 1);
        x.tread(2, false, 3);
        x.tread(1, false, 3);
        D.is("all in the hall", x.highest(), NONE);

        D.promise(53, "restless");
        D.is("of like ones the lowest", x.restless(), 1);
        x.tread(2, true, 1);
        D.is("restless()", x.restless(), 2);
        D.is("nobody trod", house(1, 2).restless(), NONE);
        D.is("nobody", house().restless(), NONE);

        D.promise(54, "home");
        x = house(1, 2, 3);
        D.is("home()", x.home(), 0);
        x.tread(0, true, 1);
        x.tread(2, true, 3);
        x.tread(1, true, 3);
        D.is("home()", x.home(), 5);
        x.tread(1, false, 1);
        D.is("home()", x.home(), 7);

        D.promise(55, "doubles");
        D.is("nobody", house().doubles(), 0);
        x = house(1, 2, 3, 4, 5, 6);
        D.is("six in the hall", x.doubles(), 15);
        x.tread(0, true, 1);
        x.tread(1, true, 1);
        D.is("four and two", x.doubles(), 7);

        D.promise(56, "pause");
        x = house(9);
        D.is("no line", x.pause(), NONE);
        x.tread(0, true, 1);
        D.is("one line", x.pause(), NONE);
        x.tread(0, true, 1);
        D.is("two lines in one hour", x.pause(), 0);
        x = ruled("ticks if hour=0 or hour=7 or hour=9 then 9 else 0 end;", 9);
        x.tread(0, true, 1);
        x.hour(1);
        x.hour(6);
        x.tread(0, x.of(0, 2) < 6, 1);
        x.hour(2);
        x.tread(0, x.of(0, 2) < 6, 1);
        D.is("from 0 to 7", x.pause(), 7);

        D.promise(57, "ledger");
        x = house(9, 8);
        D.is("ledger(NONE)", x.ledger(NONE), 0);
        x.tread(0, true, 2);
        x.tread(1, true, 2);
        x.tread(1, true, 3);
        D.is("ledger(2)", x.ledger(2), 17);
        D.is("ledger(5)", x.ledger(5), 8);
        D.is("ledger(1)", x.ledger(1), 0);
        D.is("ledger(12)", x.ledger(12), 0);
        D.is("ledger(NONE)", x.ledger(NONE), 25);
        for (int wrong : new int[] {0, 13, -2, LOW, HIGH}) {
            D.is("ledger(" + wrong + ")", x.ledger(wrong), -2);
        }
    }

    // ---- 58, 59

    private static void images() {
        D.promise(58, "image");
        StairRods x = ruled("ticks 20;", 1, 2);
        x.hour(5);
        x.print(1, 6);
        x.change(0, 0, 7);
        x.sound(1, 1, 8);
        x.listen(1);
        x.code(12);
        x.heavy(1, 50);
        x.said(0, 1, 20);
        x.hang(4, false);
        D.is("image()", x.image(), 5);
        long[] kept = all(x);
        x.undo();
        x.undo();
        x.nights(5, 40);
        x.lodger(3, 3);
        Due.text(x, "ticks 30;");
        x.by(1);
        x.print(1, 8);
        x.change(0, 0, 2);
        x.sound(1, 1, 3);
        x.listen(2);
        x.code(22);
        x.heavy(1, 60);
        x.said(1, 1, 30);
        Due.text(x, "hang ?");
        x.feed(0, 0, 0, 0, 0);
        D.that("much is otherwise", !java.util.Arrays.equals(kept, all(x)));

        D.promise(59, "back");
        D.is("back()", x.back(), 5);
        same(kept, all(x));
        D.is("the tape isn't of it", x.about(7), 20);
        D.is("nor the latest fault", x.fault(0), 1);
        D.is("steps are of it", x.undo(), 5);
        D.is("the cup is hung again", x.is(3), 8190);
        D.is("undo()", x.undo(), 4);
        D.is("an hour", x.is(0), 4);
        D.is("the image stays", x.back(), 5);
        same(kept, all(x));
        D.is("the text is of it", x.ticks(0, 1, true), 20);
        D.is("a new text is put behind it", Due.text(x, "ticks 40;"), 1);
        x.by(1);
        D.is("ticks", x.ticks(0, 1, true), 40);
        D.is("image()", x.image(), 5);
        x.by(0);
        x.hour(1);
        D.is("back()", x.back(), 5);
        D.is("the latest image", x.about(2), 1);
        D.is("ticks", x.ticks(0, 1, true), 40);
        Due.text(x, "ticks 50;");
        x.by(2);
        x.back();
        D.is("by(2)", x.by(2), false);
        D.is("another third text", Due.text(x, "ticks 60;"), 2);
        x.by(2);
        D.is("ticks", x.ticks(0, 1, true), 60);
    }

    /** Answers that show all that an image keeps. */
    private static long[] all(StairRods x) {
        return new long[] {x.about(0), x.about(1), x.about(2), x.about(3), x.about(4), x.about(5), x.about(6), x.is(0), x.is(1),
            x.is(2), x.is(3), x.of(0, 2), x.of(1, 2), x.of(0, 3), x.of(1, 3), x.of(1, 4), x.book(NONE, 0), x.ledger(NONE),
            x.weighed(), x.mood(0, 1, true), x.next(1, true), x.reads(12), x.reads(22), x.cheapest(2), x.whose(),
            x.ticks(0, 1, true)};
    }

    private static void same(long[] want, long[] got) {
        for (int i = 0; i < want.length; i++) {
            D.is("answer " + i + " of all", got[i], want[i]);
        }
    }
}
