import java.util.Arrays;

/** Edges of the promises 35 to 41: code, clear, doubt, free, reads, unread, room. */
final class EdgesCodes {
    private static final int NONE = Due.NONE;
    private static final int LOW = Due.LOW;
    private static final int HIGH = Due.HIGH;

    // ---- 35

    static void promise35_wordsAre1To22222(Due d) {
        int[] words = {1, 2, 11, 12, 21, 22, 111, 222, 1111, 2222, 11111, 12121, 22221, 22222};
        d.each("code(_)", words, word -> new StairRods().code(word), 1);
        StairRods x = new StairRods();
        d.each("code(_)", new int[] {0, -2, -11, LOW, LOW + 1, 22223, 111111, 111112, 222222, 1111111111, HIGH}, x::code, -2);
        d.is("about(5)", x.about(5), 0);
    }

    static void promise35_digitsAre1And2(Due d) {
        StairRods x = new StairRods();
        int[] others = {3, 9, 10, 20, 13, 31, 23, 32, 100, 101, 121212, 1002, 1022, 1220, 12021, 22220, 20222, 12345};
        d.each("code(_)", others, x::code, -2);
        int words = 0;
        for (int word = -2; word <= 30000; word++) {
            if (word != NONE && new StairRods().code(word) == 1) {
                words++;
                d.that("code(" + word + ") has digits 1 and 2", String.valueOf(word).matches("[12]{1,5}"));
            }
        }
        d.is("2 + 4 + 8 + 16 + 32 words can be told", words, 62);
    }

    static void promise35_fiveAtMost(Due d) {
        StairRods x = new StairRods();
        int[] words = {1, 12, 121, 1212, 12121};
        d.eachItself("the _th", 1, 5, i -> x.code(words[i - 1]), 0);
        d.is("the sixth", x.code(2), -2);
        d.is("one already", x.code(1), -2);
        d.is("about(5)", x.about(5), 5);
        d.is("reads(2)", x.reads(2), 0);
    }

    static void promise35_oneAlready(Due d) {
        int[] words = {1, 2, 11, 12, 22222};
        for (int told = 1; told <= 5; told++) {
            StairRods x = Houses.coded(Arrays.copyOf(words, told));
            for (int i = 0; i < told; i++) {
                d.is("code(" + words[i] + ")", x.code(words[i]), -2);
            }
            d.is("about(5)", x.about(5), told);
        }
        StairRods x = Houses.coded(1, 11);
        d.is("111 is another one", x.code(111), 3);
    }

    static void promise35_noneAnyMore(Due d) {
        StairRods x = new StairRods();
        d.is("code(NONE) without any", x.code(NONE), 0);
        x = Houses.coded(1, 2, 11, 12, 22);
        d.is("code(NONE) with five", x.code(NONE), 0);
        d.is("about(5)", x.about(5), 0);
        d.is("reads(1)", x.reads(1), 0);
        d.is("clear()", x.clear(), 1);
        d.is("one of them again", x.code(22), 1);
    }

    static void promise35_eachOfThemAgain(Due d) {
        int[] words = {1, 2, 11, 12, 22};
        for (int word : words) {
            StairRods x = Houses.coded(words);
            x.code(NONE);
            d.is("code(" + word + ")", x.code(word), 1);
            d.is("code(" + word + ")", x.code(word), -2);
            d.is("room(true)", x.room(true), word < 10 ? 2 : 4);
        }
    }

    private static final int[] TWOS = {2, 22, 222, 2222, 22222};

    /** Words that were told, then all forgotten, then others told. */
    private static StairRods anew(int[] forgotten, int... words) {
        StairRods x = Houses.coded(forgotten);
        x.clear();
        x.code(NONE);
        for (int word : words) {
            x.code(word);
        }
        return x;
    }

    // ---- 36

    static void promise36_ofForgottenWords(Due d) {
        d.is("2", anew(TWOS, 2).clear(), 1);
        d.is("22222", anew(TWOS, 22222).clear(), 1);
        d.is("1 12, and 2 before", anew(new int[] {1, 12, 2}, 1, 12).clear(), 1);
        d.is("12 2, and 1 before", anew(new int[] {12, 2, 1}, 12, 2).clear(), 1);
    }

    static void promise36_noWordAndOneWord(Due d) {
        d.is("none", new StairRods().clear(), 1);
        for (int word : new int[] {1, 2, 11, 1212, 22222}) {
            d.is(word + " alone", Houses.coded(word).clear(), 1);
        }
    }

    static void promise36_twoWaysOrOne(Due d) {
        d.is("1 2", Houses.coded(1, 2).clear(), 1);
        d.is("1 11", Houses.coded(1, 11).clear(), 0);
        d.is("1 2 12", Houses.coded(1, 2, 12).clear(), 0);
        d.is("1 12: begins with another, yet is clear", Houses.coded(1, 12).clear(), 1);
        d.is("11111 alone", Houses.coded(11111).clear(), 1);
        d.is("1111 11111", Houses.coded(1111, 11111).clear(), 0);
        d.is("12 122 222: a tail without an end", Houses.coded(12, 122, 222).clear(), 1);
        d.is("five words", Houses.coded(1, 21, 221, 2221, 22221).clear(), 1);
        d.is("five words", Houses.coded(1, 21, 221, 2221, 12221).clear(), 0);
    }

    // ---- 37

    static void promise37_none(Due d) {
        d.is("no word", new StairRods().doubt(), NONE);
        d.is("one word", Houses.coded(11).doubt(), NONE);
        d.is("1 12", Houses.coded(1, 12).doubt(), NONE);
        d.is("12 122 222", Houses.coded(12, 122, 222).doubt(), NONE);
    }

    static void promise37_ofForgottenWords(Due d) {
        d.is("2", anew(TWOS, 2).doubt(), NONE);
        d.is("22222", anew(TWOS, 22222).doubt(), NONE);
        d.is("1 12, and 2 before", anew(new int[] {1, 12, 2}, 1, 12).doubt(), NONE);
        d.is("2 222, and 22 before", anew(new int[] {2, 222, 22}, 2, 222).doubt(), 3);
    }

    static void promise37_theShortest(Due d) {
        d.is("2 digits are the fewest", Houses.coded(1, 11).doubt(), 2);
        d.is("11 or 11111 11", Houses.coded(11, 11111).doubt(), 7);
        d.is("of 2 and 3", Houses.coded(1, 2, 121, 12).doubt(), 2);
        d.is("of 5 and 2", Houses.coded(12121, 1, 2, 22).doubt(), 2);
        d.is("121 by 1 21, 12 1", Houses.coded(1, 12, 21).doubt(), 3);
    }

    static void promise37_theLongest(Due d) {
        // of all sets of five words none has a longer one: 12112122122122122212211212
        StairRods x = Houses.coded(12, 1211, 11212, 21221, 22122);
        d.is("doubt()", x.doubt(), 26);
        d.is("clear()", x.clear(), 0);
        d.is("told in another order", Houses.coded(22122, 21221, 11212, 1211, 12).doubt(), 26);
        d.is("2122212212212222122212122", Houses.coded(2122, 2221, 12122, 12212, 21222).doubt(), 25);
        d.is("4 and 5 of one digit", Houses.coded(1111, 11111).doubt(), 9);
    }

    // ---- 38

    static void promise38_noWordAndOneWord(Due d) {
        d.is("none", new StairRods().free(), 1);
        d.is("one", Houses.coded(1).free(), 1);
        d.is("one of five digits", Houses.coded(11111).free(), 1);
    }

    static void promise38_beginsWithAnotherOne(Due d) {
        d.is("1 11", Houses.coded(1, 11).free(), 0);
        d.is("11 1", Houses.coded(11, 1).free(), 0);
        d.is("2 22222", Houses.coded(2, 22222).free(), 0);
        d.is("2222 22222", Houses.coded(2222, 22222).free(), 0);
        d.is("1 21: ends with another", Houses.coded(1, 21).free(), 1);
        d.is("12 1122: has another inside", Houses.coded(12, 1122).free(), 1);
        d.is("the last of five", Houses.coded(11, 12, 21, 221, 2212).free(), 0);
        d.is("five", Houses.coded(11, 12, 21, 221, 222).free(), 1);
    }

    static void promise38_ofForgottenWords(Due d) {
        d.is("2", anew(TWOS, 2).free(), 1);
        d.is("22222", anew(TWOS, 22222).free(), 1);
        d.is("none", anew(TWOS).free(), 1);
    }

    // ---- 39

    static void promise39_ofForgottenWords(Due d) {
        d.is("2", anew(TWOS, 2).reads(22222), 1);
        d.is("22222", anew(TWOS, 22222).reads(22222), 1);
        d.is("none", anew(TWOS).reads(22222), 0);
    }

    static void promise39_messagesAre1To99999999(Due d) {
        StairRods x = Houses.coded(1);
        d.is("reads(1)", x.reads(1), 1);
        d.is("reads(99999999)", x.reads(99999999), 0);
        d.is("reads(11111111)", x.reads(11111111), 1);
        d.each("reads(_)", new int[] {0, NONE, -2, -11, LOW, LOW + 1, 100000000, 111111111, 1111111111, HIGH - 1, HIGH}, x::reads, NONE);
        StairRods none = new StairRods();
        d.each("reads(_) without words", new int[] {0, NONE, LOW, 100000000, HIGH}, none::reads, NONE);
        d.each("reads(_) without words", new int[] {1, 2, 3, 11111111, 99999999}, none::reads, 0);
    }

    static void promise39_otherDigitsAreReadInNoWay(Due d) {
        StairRods x = Houses.coded(1, 2, 12);
        d.each("reads(_)", new int[] {3, 9, 10, 20, 13, 31, 102, 1203, 10000000, 10000001, 11111110, 31111111, 21111113}, x::reads, 0);
    }

    static void promise39_eightDigits(Due d) {
        d.is("1 2 of 12212122", Houses.coded(1, 2).reads(12212122), 1);
        d.is("1 11 111 1111 11111 of 11111111", Houses.coded(1, 11, 111, 1111, 11111).reads(11111111), 120);
        d.is("2 22222 of 22222222", Houses.coded(2, 22222).reads(22222222), 5);
        d.is("11111 of 11111111", Houses.coded(11111).reads(11111111), 0);
        d.is("22222 of 22222", Houses.coded(22222).reads(22222), 1);
        d.is("22222 of 2222", Houses.coded(22222).reads(2222), 0);
        d.is("11112 11121 of 11112112", Houses.coded(11112, 112).reads(11112112), 1);
    }

    // ---- 40

    static void promise40_none(Due d) {
        d.is("1 2", Houses.coded(1, 2).unread(), NONE);
        d.is("2 1 and others", Houses.coded(2, 22222, 12, 1, 111).unread(), NONE);
    }

    static void promise40_theFewestDigits(Due d) {
        d.is("no word", new StairRods().unread(), 1);
        d.is("1", Houses.coded(1).unread(), 2);
        d.is("2", Houses.coded(2).unread(), 1);
        d.is("1 and all of two digits", Houses.coded(1, 11, 12, 21, 22).unread(), 2);
        d.is("all of two digits", Houses.coded(11, 12, 21, 22).unread(), 1);
    }

    // ---- 41

    static void promise41_withoutWords(Due d) {
        StairRods x = new StairRods();
        d.is("room(false)", x.room(false), 0);
        d.is("room(true)", x.room(true), 1);
        x.code(1);
        x.code(NONE);
        d.is("room(false)", x.room(false), 0);
        d.is("room(true)", x.room(true), 1);
    }

    private static void room(Due d, int upper, int lower, int... words) {
        StairRods x = Houses.coded(words);
        String name = Arrays.toString(words);
        d.is("room(false) of " + name, x.room(false), upper);
        d.is("room(true) of " + name, x.room(true), lower);
    }

    static void promise41_lowestTerms(Due d) {
        room(d, 1, 2, 1);
        room(d, 1, 4, 12);
        room(d, 1, 8, 121);
        room(d, 1, 16, 1212);
        room(d, 1, 32, 12121);
        room(d, 1, 1, 1, 2);
        room(d, 3, 4, 1, 12);
        room(d, 1, 1, 11, 12, 21, 22);
        room(d, 31, 32, 1, 11, 111, 1111, 11111);
        room(d, 5, 32, 11111, 11112, 11121, 11122, 11211);
    }

    static void promise41_ofForgottenWords(Due d) {
        StairRods x = anew(TWOS, 22222);
        d.is("room(false)", x.room(false), 1);
        d.is("room(true)", x.room(true), 32);
    }

    static void promise41_theMost(Due d) {
        room(d, 7, 4, 1, 2, 11, 12, 21);
        room(d, 3, 2, 1, 2, 11, 12);
    }
}
