/** Edges that part III names: what comes, ways, moods and sounds. */
final class EdgesPartIII {
    private static final int NONE = Due.NONE;

    static void partIII_allThatFollowsChangesNothing(Due d) {
        StairRods x = Houses.ruled("ticks weight+stair;hears 9;", 9, 1, 5);
        x.hour(12);
        x.listen(0);
        x.listen(1);
        x.code(12);
        x.code(122);
        x.print(0, 6);
        x.said(0, 1, 10);
        Due.text(x, "?");
        x.feed(1, 2, 3, 4, 5);
        String before = Seen.all(x);
        x.foretold(60, 0, 0);
        x.quiet(0, 0, 12, 0);
        x.ways(0, 12);
        x.unheard(0, 0, 12);
        x.waysBy(0, 12, 6);
        x.loudest(0);
        x.heardOn(0, true);
        x.cupRow();
        x.weighed();
        x.mood(0, 0, true);
        x.moods(0);
        x.likeliest(1);
        x.next(0, true);
        x.clear();
        x.doubt();
        x.free();
        x.reads(12122);
        x.unread();
        x.room(true);
        x.enough(true);
        x.fits(6, 1);
        x.alone(0);
        x.shared();
        x.which();
        x.cheapest(6);
        x.whose();
        x.highest();
        x.restless();
        x.home();
        x.doubles();
        x.pause();
        x.ledger(NONE);
        d.same("nothing changes", before, Seen.all(x));
    }

    static void partIII_foretold1To60ThoseThatCanPass(Due d) {
        for (int hour = 9996; hour <= 9999; hour++) {
            StairRods x = Houses.atHour(hour);
            x.lodger(1, 1);
            int left = 9999 - hour;
            int place = x.foretold(Math.max(1, left), 0, 0);
            int trod = x.foretold(Math.max(1, left), 0, 1);
            d.each("foretold(_, 0, 0) at " + hour, Due.from(Math.max(1, left), 60), n -> x.foretold(n, 0, 0), place);
            d.each("foretold(_, 0, 1) at " + hour, Due.from(Math.max(1, left), 60), n -> x.foretold(n, 0, 1), trod);
            d.is("foretold(0, 0, 0)", x.foretold(0, 0, 0), NONE);
            d.is("foretold(61, 0, 0)", x.foretold(61, 0, 0), NONE);
        }
    }

    static void partIII_foretoldNoneBeyond0And12(Due d) {
        // far behind many hours all are where they would be by hand, the top and the hall not being passed
        StairRods x = Houses.up(Houses.of(1), 12);
        StairRods y = Houses.up(Houses.of(1), 12);
        for (int n = 1; n <= 60; n++) {
            y.hour(1);
            d.is("foretold(" + n + ", 0, 0)", x.foretold(n, 0, 0), y.of(0, 2));
            d.is("foretold(" + n + ", 0, 1)", x.foretold(n, 0, 1), y.of(0, 3));
        }
    }

    static void partIII_foretoldByTheDrawsOfAll(Due d) {
        for (int lodgers = 1; lodgers <= 6; lodgers++) {
            int[] weights = Due.from(1, lodgers);
            StairRods x = Houses.of(weights);
            StairRods y = Houses.of(weights);
            y.hour(7);
            for (int who = 0; who < lodgers; who++) {
                d.is("of " + lodgers + ", " + who, x.foretold(7, who, 0), y.of(who, 2));
            }
        }
    }

    static void partIII_aQuietWay0ToItself(Due d) {
        StairRods x = Houses.of(9);
        d.each("quiet(0, _, _, NONE)", Due.from(0, 12), a -> x.quiet(0, a, a, NONE), 0);
        d.each("quiet(0, _, _, 0)", Due.from(0, 12), a -> x.quiet(0, a, a, 0), -2);
    }

    static void partIII_aQuietWayIsOfTheFewestTreads(Due d) {
        StairRods x = Houses.of(1);
        for (int far = 0; far <= 12; far++) {
            d.is("quiet(0, 0, " + far + ", NONE)", x.quiet(0, 0, far, NONE), (far + 2) / 3);
            d.is("quiet(0, 12, " + (12 - far) + ", NONE)", x.quiet(0, 12, 12 - far, NONE), (far + 2) / 3);
        }
    }

    static void partIII_aQuietWayIsNone(Due d) {
        StairRods x = Houses.of(9);
        for (int a = 0; a <= 12; a++) {
            for (int b = 1; b <= 12; b++) {
                d.is("quiet(0, " + a + ", " + b + ", NONE)", x.quiet(0, a, b, NONE), a == b ? 0 : -2);
            }
        }
    }

    static void partIII_aTreadToTheHallIsNeverHeard(Due d) {
        StairRods x = Houses.ruled("ticks 99;hears 0;", 9);
        for (int a = 0; a <= 12; a++) {
            d.is("quiet(0, " + a + ", 0, NONE)", x.quiet(0, a, 0, NONE), a == 0 ? 0 : a <= 3 ? 1 : -2);
        }
    }

    static void partIII_waysUpToItselfAndToTheNext(Due d) {
        StairRods x = new StairRods();
        long[] due = {1, 1, 2, 4, 7, 13, 24, 44, 81, 149, 274, 504, 927};
        for (int far = 0; far <= 12; far++) {
            d.is("ways(0, " + far + ")", x.ways(0, far), due[far]);
            d.is("ways(" + (12 - far) + ", 12)", x.ways(12 - far, 12), due[far]);
        }
    }

    static void partIII_waysUpOfThatManyAlone(Due d) {
        StairRods x = new StairRods();
        long[] by4 = {0, 0, 0, 0, 1, 4, 10, 16, 19, 16, 10, 4, 1};
        for (int far = 0; far <= 12; far++) {
            d.is("waysBy(0, " + far + ", 4)", x.waysBy(0, far, 4), by4[far]);
            d.is("waysBy(" + (12 - far) + ", 12, 4)", x.waysBy(12 - far, 12, 4), by4[far]);
        }
    }

    static void partIII_unheardGoingUpAlone(Due d) {
        StairRods up = Houses.ruled("ticks way*9;", 1);
        d.is("up is heard", up.unheard(0, 0, 3), 0);
        StairRods down = Houses.ruled("ticks 9-way*9;", 1);
        d.is("down is heard", down.unheard(0, 0, 3), 4);
    }

    static void partIII_loudestUpOrDown(Due d) {
        d.is("12 going down", Houses.ruled("ticks if way=0 and stair=12 then 50 else 20 end;", 1).loudest(0), 12);
        d.is("12 going up", Houses.ruled("ticks if way=1 and stair=12 then 50 else 20 end;", 1).loudest(0), 12);
        d.is("1 going down", Houses.ruled("ticks if way=0 and stair=1 then 50 else 20 end;", 1).loudest(0), 1);
        d.is("louder, but not heard", Houses.ruled("ticks 20+stair;hears if stair>6 then 99 else 0 end;", 1).loudest(0), 6);
    }

    static void partIII_moods0To2Sounds0To2(Due d) {
        StairRods x = new StairRods();
        for (int i = -1; i <= 3; i++) {
            boolean is = i >= 0 && i <= 2;
            d.is("change(" + i + ", 0, 1)", x.change(i, 0, 1), is);
            d.is("change(0, " + i + ", 1)", x.change(0, i, 1), is);
            d.is("sound(" + i + ", 0, 1)", x.sound(i, 0, 1), is);
            d.is("sound(0, " + i + ", 1)", x.sound(0, i, 1), is);
        }
    }

    static void partIII_weights0To9AtFirst1Each(Due d) {
        StairRods x = Houses.heard(0, 1, 2, 0, 1, 2);
        d.is("729 rows of 1", x.weighed(), 729);
        for (int weight = -1; weight <= 10; weight++) {
            d.is("change(0, 0, " + weight + ")", x.change(0, 0, weight), weight >= 0 && weight <= 9);
            d.is("sound(0, 0, " + weight + ")", x.sound(0, 0, weight), weight >= 0 && weight <= 9);
        }
    }

    static void partIII_6SoundsAtMost(Due d) {
        StairRods x = Houses.heard(0, 1, 2, 0, 1, 2);
        d.is("the seventh", x.listen(0), -2);
        d.is("weighed()", x.weighed(), 729);
        d.is("moods(5)", x.moods(5), 7);
        d.is("moods(6)", x.moods(6), NONE);
    }

    static void partIII_1ForTheRowOfNone(Due d) {
        StairRods x = new StairRods();
        d.is("weighed()", x.weighed(), 1);
        x.listen(0);
        d.is("weighed()", x.weighed(), 3);
        x.listen(NONE);
        d.is("weighed()", x.weighed(), 1);
    }

    static void partIII_changesBetweenThemAlone(Due d) {
        // one SOUND has no CHANGE, two have one, six have five
        long due = 3;
        StairRods x = Houses.weigh(new StairRods(), 2, 1);
        for (int sounds = 1; sounds <= 6; sounds++) {
            x.listen(0);
            d.is("weighed() of " + sounds, x.weighed(), due);
            due *= 6;
        }
    }

    static void partIII_likeliestWeighsAbove0(Due d) {
        StairRods x = Houses.heard(0);
        x.sound(0, 0, 0);
        d.is("0 can't be", x.likeliest(0), 1);
        x.sound(1, 0, 0);
        d.is("nor 1", x.likeliest(0), 2);
        x.sound(2, 0, 0);
        d.is("none", x.likeliest(0), NONE);
    }

    static void partIII_couldHaveBeenInAnyRow(Due d) {
        // 0 0 weighs nothing behind, since 0 goes on to nothing
        StairRods x = Houses.heard(0, 0, 0);
        for (int to = 0; to <= 2; to++) {
            x.change(0, to, 0);
        }
        d.is("moods(0)", x.moods(0), 6);
        d.is("moods(1)", x.moods(1), 6);
        d.is("moods(2)", x.moods(2), 7);
    }

    static void partIII_nextAheadOfAny(Due d) {
        StairRods x = new StairRods();
        d.is("next(0, false)", x.next(0, false), 1);
        d.is("next(0, true)", x.next(0, true), 3);
        // all MOODS alike, though nothing leads to 2
        for (int from = 0; from <= 2; from++) {
            x.change(from, 2, 0);
        }
        x.sound(2, 1, 7);
        d.is("next(1, false): 9 of 15", x.next(1, false), 3);
        d.is("next(1, true): 9 of 15", x.next(1, true), 5);
        x.listen(0);
        d.is("behind one: 2 of 6", x.next(1, false), 1);
        d.is("behind one: 2 of 6", x.next(1, true), 3);
    }
}
