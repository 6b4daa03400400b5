/** Edges of the promises 27 to 34: change, sound, listen, weighed, mood, moods, likeliest, next. */
final class EdgesMoods {
    private static final int NONE = Due.NONE;

    // ---- 27

    static void promise27_moodsAre0To2(Due d) {
        StairRods x = new StairRods();
        for (int mood = 0; mood <= 2; mood++) {
            int from = mood;
            d.each("change(" + mood + ", _, 1)", Due.from(0, 2), to -> x.change(from, to, 1) ? 1 : 0, 1);
            d.each("change(" + mood + ", _, 1)", Due.outside(0, 2), to -> x.change(from, to, 1) ? 1 : 0, 0);
            d.each("change(_, " + mood + ", 1)", Due.outside(0, 2), other -> x.change(other, from, 1) ? 1 : 0, 0);
        }
    }

    static void promise27_weightsAre0To9(Due d) {
        for (int weight = 0; weight <= 9; weight++) {
            StairRods x = Houses.heard(0, 0);
            d.is("change(2, 2, " + weight + ")", x.change(2, 2, weight), true);
            d.is("weighed()", x.weighed(), 8 + weight);
        }
        StairRods x = Houses.heard(0, 0);
        d.each("change(2, 2, _)", Due.outside(0, 9), weight -> x.change(2, 2, weight) ? 1 : 0, 0);
        d.is("weighed()", x.weighed(), 9);
    }

    static void promise27_refusedOnesChangeNothing(Due d) {
        StairRods x = Houses.heard(0, 0);
        String before = Seen.all(x);
        for (int wrong : Due.outside(0, 2)) {
            x.change(wrong, 0, 9);
            x.change(0, wrong, 9);
        }
        x.change(0, 3, 9);
        x.change(1, -1, 9);
        d.same("nothing is told", before, Seen.all(x));
    }

    static void promise27_eachHasItsOwnWeight(Due d) {
        for (int from = 0; from <= 2; from++) {
            for (int to = 0; to <= 2; to++) {
                StairRods x = Houses.weigh(Houses.heard(0, 0), 0, 1);
                x.change(from, to, 5);
                d.is("weighed()", x.weighed(), 5);
                d.is("likeliest(0)", x.likeliest(0), from);
                d.is("likeliest(1)", x.likeliest(1), to);
            }
        }
    }

    // ---- 28

    static void promise28_moodsAndSoundsAre0To2(Due d) {
        StairRods x = new StairRods();
        for (int mood = 0; mood <= 2; mood++) {
            int in = mood;
            d.each("sound(" + mood + ", _, 1)", Due.from(0, 2), sound -> x.sound(in, sound, 1) ? 1 : 0, 1);
            d.each("sound(" + mood + ", _, 1)", Due.outside(0, 2), sound -> x.sound(in, sound, 1) ? 1 : 0, 0);
            d.each("sound(_, " + mood + ", 1)", Due.outside(0, 2), other -> x.sound(other, in, 1) ? 1 : 0, 0);
        }
    }

    static void promise28_weightsAre0To9(Due d) {
        for (int weight = 0; weight <= 9; weight++) {
            StairRods x = Houses.heard(2);
            d.is("sound(2, 2, " + weight + ")", x.sound(2, 2, weight), true);
            d.is("weighed()", x.weighed(), 2 + weight);
        }
        StairRods x = Houses.heard(2);
        d.each("sound(2, 2, _)", Due.outside(0, 9), weight -> x.sound(2, 2, weight) ? 1 : 0, 0);
        d.is("weighed()", x.weighed(), 3);
    }

    static void promise28_refusedOnesChangeNothing(Due d) {
        StairRods x = Houses.heard(0, 1, 2);
        String before = Seen.all(x);
        for (int wrong : Due.outside(0, 2)) {
            x.sound(wrong, 0, 9);
            x.sound(0, wrong, 9);
        }
        x.sound(0, 3, 9);
        x.sound(1, -1, 9);
        d.same("nothing is told", before, Seen.all(x));
    }

    static void promise28_eachHasItsOwnWeight(Due d) {
        for (int mood = 0; mood <= 2; mood++) {
            for (int sound = 0; sound <= 2; sound++) {
                StairRods x = Houses.weigh(Houses.heard(sound), 1, 0);
                x.sound(mood, sound, 5);
                d.is("weighed()", x.weighed(), 5);
                d.is("likeliest(0)", x.likeliest(0), mood);
            }
        }
    }

    // ---- 29

    static void promise29_soundsAre0To2(Due d) {
        d.each("listen(_)", Due.from(0, 2), sound -> new StairRods().listen(sound), 1);
        StairRods x = new StairRods();
        d.each("listen(_)", Due.outsideButNone(2), x::listen, -2);
        d.is("about(4)", x.about(4), 0);
    }

    static void promise29_sixAtMost(Due d) {
        StairRods x = new StairRods();
        d.eachItself("listen, the _th", 1, 6, i -> x.listen(i % 3), 0);
        d.each("listen(_), the seventh", Due.from(0, 2), x::listen, -2);
        d.is("about(4)", x.about(4), 6);
    }

    static void promise29_noneAnyMore(Due d) {
        StairRods x = new StairRods();
        d.is("listen(NONE) without any", x.listen(NONE), 0);
        for (int i = 0; i < 6; i++) {
            x.listen(2);
        }
        d.is("listen(NONE) with six", x.listen(NONE), 0);
        d.is("about(4)", x.about(4), 0);
        d.is("weighed()", x.weighed(), 1);
        d.is("listen(1)", x.listen(1), 1);
    }

    static void promise29_weightsStay(Due d) {
        StairRods x = Houses.weigh(Houses.heard(0), 2, 3);
        x.listen(NONE);
        x.listen(0);
        x.listen(0);
        d.is("weighed(): 9 rows of 3 * 2 * 3", x.weighed(), 9 * 18);
    }

    // ---- 30

    static void promise30_theRowOfNone(Due d) {
        d.is("weighed()", new StairRods().weighed(), 1);
        d.is("weighed(), weights being 0", Houses.weigh(new StairRods(), 0, 0).weighed(), 1);
        d.is("weighed(), weights being 9", Houses.weigh(new StairRods(), 9, 9).weighed(), 1);
    }

    static void promise30_nothingWeighs(Due d) {
        for (int sounds = 1; sounds <= 6; sounds++) {
            StairRods x = Houses.heard(new int[sounds]);
            d.is("sounds of 0", Houses.weigh(x, 9, 0).weighed(), 0);
            d.is("changes of 0", Houses.weigh(x, 0, 9).weighed(), sounds == 1 ? 27 : 0);
        }
    }

    static void promise30_theHeaviest(Due d) {
        StairRods x = Houses.weigh(new StairRods(), 9, 9);
        long due = 27;
        for (int sounds = 1; sounds <= 6; sounds++) {
            x.listen(sounds % 3);
            d.is("weighed() of " + sounds, x.weighed(), due);
            due *= 3 * 81;
        }
    }

    // ---- 31

    static void promise31_iIsOneOfThoseListenedTo(Due d) {
        d.each("mood(_, 0, true) of none", Due.outside(0, -1), i -> new StairRods().mood(i, 0, true), NONE);
        StairRods x = new StairRods();
        for (int sounds = 1; sounds <= 6; sounds++) {
            x.listen(0);
            d.is("the first", x.mood(0, 0, true), 3);
            d.is("the last", x.mood(sounds - 1, 0, true), 3);
            d.is("one beyond", x.mood(sounds, 0, true), NONE);
            d.is("one beyond", x.mood(sounds, 0, false), NONE);
        }
        d.each("mood(_, 0, true)", Due.outside(0, 5), i -> x.mood(i, 0, true), NONE);
    }

    static void promise31_moodsAre0To2(Due d) {
        StairRods x = Houses.heard(0, 1);
        d.each("mood(0, _, true)", Due.from(0, 2), mood -> x.mood(0, mood, true), 3);
        d.each("mood(0, _, true)", Due.outside(0, 2), mood -> x.mood(0, mood, true), NONE);
        d.each("mood(1, _, false)", Due.outside(0, 2), mood -> x.mood(1, mood, false), NONE);
    }

    static void promise31_noneCouldBe(Due d) {
        StairRods x = Houses.weigh(Houses.heard(0, 0), 0, 1);
        for (int i = 0; i < 2; i++) {
            for (int mood = 0; mood <= 2; mood++) {
                d.is("mood(" + i + ", " + mood + ", false)", x.mood(i, mood, false), NONE);
                d.is("mood(" + i + ", " + mood + ", true)", x.mood(i, mood, true), NONE);
            }
        }
    }

    static void promise31_neverAndAlways(Due d) {
        StairRods x = Houses.heard(0);
        x.sound(0, 0, 0);
        x.sound(1, 0, 0);
        d.is("never: the upper", x.mood(0, 0, false), 0);
        d.is("never: the lower", x.mood(0, 0, true), 1);
        d.is("always: the upper", x.mood(0, 2, false), 1);
        d.is("always: the lower", x.mood(0, 2, true), 1);
    }

    static void promise31_lowestTermsOfTheHeaviest(Due d) {
        StairRods x = Houses.weigh(Houses.heard(0, 1, 2, 0, 1, 2), 9, 9);
        for (int i = 0; i < 6; i++) {
            d.is("mood(" + i + ", 1, false)", x.mood(i, 1, false), 1);
            d.is("mood(" + i + ", 1, true)", x.mood(i, 1, true), 3);
        }
        x.sound(0, 0, 8);
        x.sound(0, 1, 7);
        x.sound(0, 2, 8);
        x.change(0, 0, 8);
        // with a = (8, 9, 9), (7, 9, 9), (8, 9, 9), .. no number divides all
        d.that("the lower is large: " + x.mood(0, 1, true), x.mood(0, 1, true) > Integer.MAX_VALUE);
        long all = x.weighed();
        d.is("they are parts of all", all % x.mood(0, 1, true), 0);
        d.is("they make one", x.mood(0, 0, false) * (all / x.mood(0, 0, true)) + x.mood(0, 1, false) * (all / x.mood(0, 1, true))
            + x.mood(0, 2, false) * (all / x.mood(0, 2, true)), all);
    }

    // ---- 32

    static void promise32_iIsOneOfThoseListenedTo(Due d) {
        d.each("moods(_) of none", Due.from(-2, 2), i -> new StairRods().moods(i), NONE);
        StairRods x = new StairRods();
        for (int sounds = 1; sounds <= 6; sounds++) {
            x.listen(0);
            d.is("the first", x.moods(0), 7);
            d.is("the last", x.moods(sounds - 1), 7);
            d.is("one beyond", x.moods(sounds), NONE);
        }
        d.each("moods(_)", Due.outside(0, 5), x::moods, NONE);
    }

    static void promise32_noneCouldHaveBeen(Due d) {
        StairRods x = Houses.weigh(Houses.heard(0, 0), 0, 1);
        d.is("moods(0)", x.moods(0), 0);
        d.is("moods(1)", x.moods(1), 0);
    }

    static void promise32_oneCouldHaveBeen(Due d) {
        for (int mood = 0; mood <= 2; mood++) {
            StairRods x = Houses.weigh(Houses.heard(0, 1), 1, 0);
            x.sound(mood, 0, 1);
            x.sound(2 - mood, 1, 9);
            d.is("moods(0)", x.moods(0), 1 << mood);
            d.is("moods(1)", x.moods(1), 4 >> mood);
        }
    }

    // ---- 33

    static void promise33_iIsOneOfThoseListenedTo(Due d) {
        d.each("likeliest(_) of none", Due.from(-2, 2), i -> new StairRods().likeliest(i), NONE);
        StairRods x = new StairRods();
        for (int sounds = 1; sounds <= 6; sounds++) {
            x.listen(0);
            d.is("the first", x.likeliest(0), 0);
            d.is("the last", x.likeliest(sounds - 1), 0);
            d.is("one beyond", x.likeliest(sounds), NONE);
        }
        d.each("likeliest(_)", Due.outside(0, 5), x::likeliest, NONE);
    }

    static void promise33_noneCouldBe(Due d) {
        StairRods x = Houses.weigh(Houses.heard(0, 0), 0, 1);
        d.is("likeliest(0)", x.likeliest(0), NONE);
        d.is("likeliest(1)", x.likeliest(1), NONE);
        x.change(2, 1, 1);
        d.is("one row alone", x.likeliest(0), 2);
        d.is("one row alone", x.likeliest(1), 1);
    }

    static void promise33_ofLikeOnesTheLowestFirstMoodThenTheNext(Due d) {
        StairRods x = Houses.weigh(Houses.heard(0, 0, 0), 0, 1);
        x.change(0, 2, 1);
        x.change(2, 1, 1);
        x.change(1, 0, 1);
        x.change(0, 1, 1);
        // 0 1 0, 0 2 1, 1 0 1, 1 0 2, 2 1 0 weigh 1 each
        d.is("likeliest(0)", x.likeliest(0), 0);
        d.is("likeliest(1)", x.likeliest(1), 1);
        d.is("likeliest(2)", x.likeliest(2), 0);
        x.change(0, 2, 2);
        // 0 2 1 and 1 0 2 weigh 2
        d.is("likeliest(0)", x.likeliest(0), 0);
        d.is("likeliest(1)", x.likeliest(1), 2);
        d.is("likeliest(2)", x.likeliest(2), 1);
    }

    static void promise33_theRowThatWeighsMost(Due d) {
        // 0 0, 0 1, 0 2 weigh 2 each, and 6 together; 1 0 weighs 5 alone
        StairRods x = Houses.weigh(Houses.heard(0, 0), 0, 1);
        for (int to = 0; to <= 2; to++) {
            x.change(0, to, 2);
        }
        x.change(1, 0, 5);
        d.is("likeliest(0)", x.likeliest(0), 1);
        d.is("likeliest(1)", x.likeliest(1), 0);
        d.is("though 0 is likelier: 6 of 11", x.mood(0, 0, false), 6);
    }

    /** Six SOUNDS were LISTENED to and asked for; then another one alone. */
    private static StairRods anew() {
        StairRods x = Houses.weigh(Houses.heard(2, 2, 2, 2, 2, 2), 9, 9);
        for (int i = 0; i < 6; i++) {
            x.mood(i, 0, true);
            x.moods(i);
            x.likeliest(i);
        }
        x.next(0, true);
        x.listen(NONE);
        x.sound(0, 0, 1);
        x.sound(1, 0, 2);
        x.sound(2, 0, 3);
        x.listen(0);
        return x;
    }

    static void promise31_ofThoseThatWereForgotten(Due d) {
        StairRods x = anew();
        d.is("weighed()", x.weighed(), 6);
        int[] lower = {6, 3, 2};
        for (int mood = 0; mood <= 2; mood++) {
            d.is("mood(0, " + mood + ", false)", x.mood(0, mood, false), 1);
            d.is("mood(0, " + mood + ", true)", x.mood(0, mood, true), lower[mood]);
        }
        d.each("mood(_, 0, true)", Due.from(1, 6), i -> x.mood(i, 0, true), NONE);
    }

    static void promise32_ofThoseThatWereForgotten(Due d) {
        StairRods x = anew();
        d.is("moods(0)", x.moods(0), 7);
        d.each("moods(_)", Due.from(1, 6), x::moods, NONE);
    }

    static void promise33_ofThoseThatWereForgotten(Due d) {
        StairRods x = anew();
        d.is("likeliest(0)", x.likeliest(0), 2);
        d.each("likeliest(_)", Due.from(1, 6), x::likeliest, NONE);
    }

    // ---- 34

    static void promise34_soundsAre0To2(Due d) {
        StairRods x = Houses.heard(0);
        d.each("next(_, true)", Due.from(0, 2), sound -> x.next(sound, true), 3);
        d.each("next(_, true)", Due.outside(0, 2), sound -> x.next(sound, true), NONE);
        d.each("next(_, false)", Due.outside(0, 2), sound -> x.next(sound, false), NONE);
        d.each("next(_, true) ahead of any", Due.outside(0, 2), sound -> new StairRods().next(sound, true), NONE);
    }

    static void promise34_aheadOfAny(Due d) {
        StairRods x = Houses.weigh(new StairRods(), 0, 0);
        x.sound(0, 0, 1);
        x.sound(1, 0, 2);
        x.sound(2, 2, 9);
        d.is("changes don't count: the upper", x.next(0, false), 1);
        d.is("changes don't count: the lower", x.next(0, true), 4);
        d.is("never: the upper", x.next(1, false), 0);
        d.is("never: the lower", x.next(1, true), 1);
        d.is("the upper", x.next(2, false), 3);
        d.is("the lower", x.next(2, true), 4);
    }

    static void promise34_noneCouldBe(Due d) {
        StairRods ahead = Houses.weigh(new StairRods(), 9, 0);
        d.each("next(_, false) ahead of any", Due.from(0, 2), sound -> ahead.next(sound, false), NONE);
        d.each("next(_, true) ahead of any", Due.from(0, 2), sound -> ahead.next(sound, true), NONE);
        StairRods x = Houses.weigh(Houses.heard(0), 0, 1);
        d.each("next(_, false) without a change", Due.from(0, 2), sound -> x.next(sound, false), NONE);
        d.each("next(_, true) without a change", Due.from(0, 2), sound -> x.next(sound, true), NONE);
        StairRods y = Houses.heard(0);
        for (int mood = 0; mood <= 2; mood++) {
            y.sound(mood, 0, 0);
        }
        d.each("next(_, true), what was heard can't be", Due.from(0, 2), sound -> y.next(sound, true), NONE);
    }

    static void promise34_behindSix(Due d) {
        StairRods x = Houses.weigh(Houses.heard(0, 1, 2, 0, 1, 2), 9, 9);
        d.is("next(0, false)", x.next(0, false), 1);
        d.is("next(0, true)", x.next(0, true), 3);
        x.sound(0, 0, 0);
        x.sound(1, 0, 0);
        x.sound(2, 0, 9);
        d.is("next(0, false): 9 of 63", x.next(0, false), 1);
        d.is("next(0, true): 9 of 63", x.next(0, true), 7);
    }

    static void promise34_alwaysTheSame(Due d) {
        StairRods x = Houses.weigh(new StairRods(), 1, 0);
        x.sound(1, 2, 7);
        x.listen(2);
        d.is("next(2, false)", x.next(2, false), 1);
        d.is("next(2, true)", x.next(2, true), 1);
        d.is("next(0, false)", x.next(0, false), 0);
        d.is("next(0, true)", x.next(0, true), 1);
    }
}
