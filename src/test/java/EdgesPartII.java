import java.util.ArrayList;
import java.util.Arrays;
import java.util.List;

/** Edges that part II names: texts, tokens, sums, faults and their places, laws, plays. */
final class EdgesPartII {
    private static final int NONE = Due.NONE;

    private static void whole(Due d, String text) {
        d.is("fault of \"" + text + "\"", Due.faultOf(text), NONE);
    }

    /** The text has this FAULT at this place. */
    private static void fault(Due d, int what, int place, String text) {
        d.is("fault * 1000 + place of \"" + text + "\"", Due.faultOf(text), what * 1000 + place);
    }

    private static void says(Due d, int due, String sum) {
        d.is("ticks " + sum + ";", Due.ticksBy(sum, 4, true), due);
    }

    // ---- TEXTS and TOKENS

    static void partII_upTo300Bytes(Due d) {
        whole(d, "");
        whole(d, " ".repeat(300));
        whole(d, "hears" + " ".repeat(293) + "1;");
        whole(d, "hears " + "0".repeat(292) + "9;");
        whole(d, "hears 1" + "+1".repeat(146) + ";");
        fault(d, 1, 0, ";".repeat(300));
        fault(d, 1, 299, "hang 12;up 1 by 0; " + " ".repeat(280) + ";");
        fault(d, 1, 300, "hears" + " ".repeat(294) + "1");
        fault(d, 1, 299, "hang 1;" + " ".repeat(292) + "?");
        fault(d, 1, 300, "hang 1;" + " ".repeat(289) + "hang");
    }

    static void partII_aTokenThatEndsAtTheTapesLastByte(Due d) {
        String ahead = "hang 1;" + " ".repeat(286);
        for (String word : new String[] {"h", "ho", "hou", "hour", "unhan", "tick", "ticks", "foo"}) {
            boolean begins = word.equals("hour") || word.equals("ticks");
            String text = " ".repeat(7 - word.length()) + word;
            fault(d, 1, begins ? 300 : 300 - word.length(), ahead + text);
        }
        fault(d, 1, 300, ahead + "hang 12");
        fault(d, 2, 298, ahead + "hour 61");
        fault(d, 1, 299, ahead + "      <");
        fault(d, 1, 298, ahead + "     >=");
        whole(d, ahead + "hour 1;");
    }

    static void partII_fourFullTextsAndManyWithFaults(Due d) {
        StairRods x = new StairRods();
        for (int t = 0; t < 4; t++) {
            for (int i = 0; i < 3; i++) {
                d.is("one with a fault", Due.text(x, "hears 1" + "+1".repeat(146) + "?"), NONE);
                d.is("fault(1)", x.fault(1), 299);
            }
            String law = "hears " + (t + 1) + "+0".repeat(145) + "+" + t + ";";
            d.is("a full one", Due.text(x, law), t);
            x.by(t);
            d.is("hears(1)", x.hears(1), 2 * t + 1);
        }
    }

    static void partII_blanksAre32And10(Due d) {
        whole(d, "\nhang\n1\n;\n");
        whole(d, " hang 1 ; ");
        whole(d, "hang1;");
        for (int sign = 0; sign < 256; sign++) {
            boolean token = Character.isLetterOrDigit(sign) && sign < 128 || "<>=#+-*/();".indexOf(sign) >= 0;
            if (sign != 32 && sign != 10 && !token) {
                fault(d, 1, 0, "" + (char) sign);
                fault(d, 1, 4, "hang" + (char) sign + "1;");
                fault(d, 1, 7, "hang 1;" + (char) sign);
            }
        }
    }

    static void partII_lettersAreOneToken(Due d) {
        for (char letter : new char[] {'a', 'z', 'A', 'Z', 'm', 'M'}) {
            fault(d, 1, 0, "hang" + letter + " 1;");
            fault(d, 1, 0, letter + "hang 1;");
            fault(d, 1, 1, " hang" + letter);
        }
        for (char sign : new char[] {'`', '{', '@', '['}) {
            fault(d, 1, 4, "hang" + sign + " 1;");
        }
        for (String word : "ticks hears lodger up down hang unhang hour".split(" ")) {
            fault(d, 1, 0, word.substring(0, 1).toUpperCase() + word.substring(1) + " 1;");
            fault(d, 1, 0, word.substring(0, word.length() - 1) + " 1;");
            fault(d, 1, 0, word + word + " 1;");
            fault(d, 1, word.length() + 1, word + " ?");
        }
        fault(d, 1, 0, "han g 1;");
    }

    static void partII_digitsAreOneToken(Due d) {
        whole(d, "hang 12;");
        fault(d, 1, 7, "hang 1 2;");
        fault(d, 1, 6, "hang 1:");
        fault(d, 1, 6, "hang 1/;");
        whole(d, "ticks 0000006789/1000;");
        for (int digit = 0; digit <= 9; digit++) {
            says(d, digit, "" + digit);
            says(d, digit * 9 + 9, digit + "9-" + digit);
        }
    }

    static void partII_theLongestSign(Due d) {
        whole(d, "ticks if 1<=2 then 1 else 2 end;");
        whole(d, "ticks if 1>=2 then 1 else 2 end;");
        fault(d, 1, 12, "ticks if 1< =2 then 1 else 2 end;");
        fault(d, 1, 12, "ticks if 1> =2 then 1 else 2 end;");
        fault(d, 1, 11, "ticks if 1=<2 then 1 else 2 end;");
        fault(d, 1, 11, "ticks if 1=>2 then 1 else 2 end;");
        fault(d, 1, 11, "ticks if 1<>2 then 1 else 2 end;");
        fault(d, 1, 11, "ticks if 1==2 then 1 else 2 end;");
        fault(d, 1, 12, "ticks if 1<==2 then 1 else 2 end;");
        fault(d, 1, 10, "ticks if 1");
        fault(d, 1, 11, "ticks if 1<");
        fault(d, 1, 12, "ticks if 1<=");
    }

    // ---- CLAUSES

    static void partII_24Clauses(Due d) {
        whole(d, "");
        whole(d, "hang 1;");
        whole(d, "hang 1;".repeat(24));
        fault(d, 6, 168, "hang 1;".repeat(25));
        fault(d, 6, 168, "hang 1;".repeat(24) + "hour");
        fault(d, 6, 170, "hang 1;".repeat(24) + "  up 1 by 0;");
        whole(d, "ticks 1;hears 1;" + "hang 1;".repeat(22));
        fault(d, 6, 170, "ticks 1;hears 1;" + "hang 1;".repeat(22) + "hang 1;");
        fault(d, 6, 168, "hang 1;".repeat(24) + "ticks 1;");
        whole(d, "hang 1;".repeat(23) + "ticks 1;");
        whole(d, "hang 1;".repeat(24) + " \n ");
    }

    static void partII_lawsOnce(Due d) {
        whole(d, "ticks 1;hears 1;");
        whole(d, "hears 1;ticks 1;");
        fault(d, 4, 8, "ticks 1;ticks 1;");
        fault(d, 4, 8, "hears 1;hears 1;");
        fault(d, 4, 16, "ticks 1;hears 1;ticks 1;");
        fault(d, 4, 16, "ticks 1;hears 1;hears 1;");
        fault(d, 4, 8, "ticks 1;ticks");
        fault(d, 4, 17, "ticks 1;hour 60; ticks ?");
    }

    /** What stands around a NUMBER, with the lowest and the highest one that is told. */
    private static void numbers(Due d, String ahead, String behind, int low, int high) {
        whole(d, ahead + low + behind);
        whole(d, ahead + high + behind);
        whole(d, ahead + "000" + high + behind);
        if (low > 0) {
            fault(d, 2, ahead.length(), ahead + (low - 1) + behind);
        }
        fault(d, 2, ahead.length(), ahead + (high + 1) + behind);
        for (String far : new String[] {"10000", "65537", "4294967297", "99999999999999999999", "18446744073709551617"}) {
            fault(d, 2, ahead.length(), ahead + far + behind);
        }
        fault(d, 1, ahead.length(), ahead + "-1" + behind);
        fault(d, 1, ahead.length(), ahead + ";");
        fault(d, 1, ahead.length(), ahead);
        fault(d, 1, ahead.length(), ahead + "hour" + behind);
    }

    static void partII_weightsAre1To9(Due d) {
        numbers(d, "lodger ", " floor 1;", 1, 9);
    }

    static void partII_floorsAre1To12(Due d) {
        numbers(d, "lodger 1 floor ", ";", 1, 12);
    }

    static void partII_placesAre1To3(Due d) {
        numbers(d, "up ", " by 0;", 1, 3);
        numbers(d, "down ", " by 0;", 1, 3);
    }

    static void partII_lodgersAre0To5(Due d) {
        numbers(d, "up 1 by ", ";", 0, 5);
        numbers(d, "down 1 by ", ";", 0, 5);
    }

    static void partII_stairsAre1To12(Due d) {
        numbers(d, "hang ", ";", 1, 12);
        numbers(d, "unhang ", ";", 1, 12);
    }

    static void partII_hoursAre1To60(Due d) {
        numbers(d, "hour ", ";", 1, 60);
    }

    static void partII_numbersAre0To9999(Due d) {
        for (String law : new String[] {"ticks ", "hears "}) {
            whole(d, law + "0;");
            whole(d, law + "9999;");
            whole(d, law + "09999;");
            whole(d, law + "00000000000000000000000000009999;");
            fault(d, 2, 6, law + "10000;");
            fault(d, 2, 6, law + "010000;");
            fault(d, 2, 6, law + "99999;");
            fault(d, 2, 6, law + "65536;");
            fault(d, 2, 6, law + "4294967296;");
            fault(d, 2, 6, law + "18446744073709551616;");
            fault(d, 2, 7, law + "-10000;");
            fault(d, 2, 8, law + "9+10000;");
            fault(d, 2, 6, law + "9".repeat(293) + ";");
        }
        says(d, 99, "9999/101");
        says(d, 0, "9999-9999");
    }

    // ---- SUMS

    static void partII_by0ItIs0(Due d) {
        says(d, 0, "7/0");
        says(d, 0, "0/0");
        says(d, 5, "5+9999/0");
        says(d, 5, "5-9999/0");
        says(d, 7, "-7/0+7");
        says(d, 5, "5+7/(3-3)");
        says(d, 5, "5+7/0*9");
        says(d, 5, "5+7/0/0");
        d.is("hears 9/0;", Houses.ruled("hears 9/0;").hears(1), 0);
    }

    static void partII_cutsTowards0(Due d) {
        says(d, 3, "7/2");
        says(d, 7, "10+(0-7)/2");
        says(d, 7, "10+7/(0-2)");
        says(d, 3, "(0-7)/(0-2)");
        says(d, 10, "10+(0-1)/2");
        says(d, 10, "10+1/(0-2)");
        says(d, 9, "10+(0-2)/2");
        says(d, 9, "10+(0-3)/2");
    }

    static void partII_nearBy0(Due d) {
        says(d, 7, "near 7 of 0");
        says(d, 7, "near-7 of 0");
        says(d, 7, "near(0-7)of(3-3)");
        says(d, 0, "near 0 of 0");
        says(d, 99, "near 9999 of 0");
        says(d, 50, "near(9999*9999)of 0/5000/4");
        says(d, 50, "near(-9999*9999)of 0/5000/4");
    }

    static void partII_nearTheNearestMultiple(Due d) {
        for (int number = -25; number <= 25; number++) {
            int due = Math.min(Math.floorMod(number, 10), Math.floorMod(-number, 10));
            says(d, due, "near(" + (number < 0 ? "0-" : "") + Math.abs(number) + ")of 10");
            says(d, due, "near(" + (number < 0 ? "0-" : "") + Math.abs(number) + ")of-10");
        }
        says(d, 3, "near 3 of 7");
        says(d, 3, "near 4 of 7");
        says(d, 0, "near 9999 of 1");
        says(d, 0, "near 9999 of-1");
        says(d, 1, "near 1 of 9999");
        says(d, 1, "near 9998 of 9999");
        says(d, 0, "near(9999*9999)of(9999*9999)");
        says(d, 1, "near(9999*9999-1)of(9999*9999)");
        says(d, 1, "near(1-9999*9999)of(9999*9999)");
        says(d, 1, "near(1-9999*9999)of(0-9999*9999)");
    }

    static void partII_aboveAMillionIsThat(Due d) {
        // each sum is brought down to 0 .. 99 again: 1000000 is 1000 * 1000
        says(d, 0, "1000*1000-1000*1000");
        says(d, 1, "1000*1000-(1000*1000-1)");
        says(d, 0, "(1000*1000+1)-1000*1000");
        says(d, 0, "(1000*1000+9999)-1000*1000");
        says(d, 0, "1001*1000-1000*1000");
        says(d, 0, "9999*9999-1000*1000");
        says(d, 0, "(1000*1000+1000*1000)-1000*1000");
        says(d, 0, "(1000*1000-(0-1000*1000))-1000*1000");
        says(d, 1, "9999*9999-1-1000*999-998");
        says(d, 0, "1000*1000*(1000*1000)-1000*1000");
        says(d, 0, "(0-1000*1000)*(0-1000*1000)-1000*1000");
    }

    static void partII_belowTheSameLess(Due d) {
        says(d, 0, "(0-1000)*1000+1000*1000");
        says(d, 1, "(0-1000)*1000+1+1000*1000");
        says(d, 0, "(0-1000)*1000-1+1000*1000");
        says(d, 0, "(0-1000)*1000-9999+1000*1000");
        says(d, 0, "(0-1001)*1000+1000*1000");
        says(d, 0, "(0-9999)*9999+1000*1000");
        says(d, 0, "((0-1000*1000)+(0-1000*1000))+1000*1000");
        says(d, 0, "((0-1000*1000)-1000*1000)+1000*1000");
        says(d, 7, "(0-1000*1000)*(1000*1000)+1000*1000+7");
        says(d, 7, "-(1000*1000)+1000*1000+7");
    }

    static void partII_atEachStep(Due d) {
        // 2000000 - 1000000 would be 1000000, but is 0 since 2000000 is 1000000
        says(d, 0, "1000*1000*2-1000*1000");
        says(d, 5, "1000*1000+5-1000*1000+5");
        says(d, 50, "1000*1000*9/9999/2");
        says(d, 99, "1000*1000/1000/10");
        says(d, 10, "9999*9999*0+10");
    }

    static void partII_cupsOfOthersAre0(Due d) {
        StairRods x = Houses.ruled("ticks cups(stair-1);", 1);
        d.is("cups 0", x.ticks(0, 1, true), 0);
        d.is("cups 1", x.ticks(0, 2, true), 1);
        d.is("cups 11", x.ticks(0, 12, true), 1);
        x = Houses.ruled("ticks cups(stair+1);", 1);
        d.is("cups 12", x.ticks(0, 11, true), 1);
        d.is("cups 13", x.ticks(0, 12, true), 0);
        x.hang(12, false);
        d.is("cups 12, without one", x.ticks(0, 11, true), 0);
        for (String other : new String[] {"0", "13", "14", "31", "32", "33", "44", "64", "65", "9999", "-1", "-12", "-31",
            "(0-32)", "(9999*9999)", "(0-9999*9999)"}) {
            says(d, 0, "cups" + (other.startsWith("(") ? other : " " + other));
        }
        for (int stair = 1; stair <= 12; stair++) {
            says(d, 1, "cups " + stair);
        }
    }

    static void partII_justTheChosenSumIsAsked(Due d) {
        says(d, 3, "if 1<2 then 3 else 4/0 end");
        says(d, 4, "if 2<1 then 3/0 else 4 end");
        says(d, 12, "if 1<2 then 3 else 9999 end*4");
        says(d, 16, "if 2<1 then 9999 else 4 end*4");
    }

    static void partII_comparingAtTheEdge(Due d) {
        String[] signs = {"<", "<=", ">", ">=", "=", "#"};
        for (int left = 4; left <= 6; left++) {
            boolean[] due = {left < 5, left <= 5, left > 5, left >= 5, left == 5, left != 5};
            for (int i = 0; i < 6; i++) {
                says(d, due[i] ? 1 : 2, "if " + left + signs[i] + "5 then 1 else 2 end");
                says(d, due[i] ? 2 : 1, "if not " + left + signs[i] + "5 then 1 else 2 end");
            }
        }
        says(d, 1, "if 0-9999*9999<9999*9999 then 1 else 2 end");
        says(d, 1, "if 9999*9999=1000*1000 then 1 else 2 end");
    }

    static void partII_orAndAnd(Due d) {
        for (int bits = 0; bits < 8; bits++) {
            boolean a = (bits & 4) > 0;
            boolean b = (bits & 2) > 0;
            boolean c = (bits & 1) > 0;
            String[] ask = {a ? "1=1" : "1=2", b ? "1=1" : "1=2", c ? "1=1" : "1=2"};
            says(d, a || b && c ? 1 : 2, "if " + ask[0] + " or " + ask[1] + " and " + ask[2] + " then 1 else 2 end");
            says(d, a && b || c ? 1 : 2, "if " + ask[0] + " and " + ask[1] + " or " + ask[2] + " then 1 else 2 end");
            says(d, !a && b ? 1 : 2, "if not " + ask[0] + " and " + ask[1] + " then 1 else 2 end");
            says(d, a || !b ? 1 : 2, "if " + ask[0] + " or not " + ask[1] + " then 1 else 2 end");
        }
    }

    static void partII_fromTheLeft(Due d) {
        says(d, 5, "20-10-5");
        says(d, 15, "20-10+5");
        says(d, 2, "24/4/3");
        says(d, 18, "24/4*3");
        says(d, 6, "7*2/2-1");
        says(d, 4, "8*1/2");
        says(d, 14, "2+3*4");
        says(d, 4, "10-2*3");
    }

    // ---- FAULTS

    /** A whole text that has every TOKEN but <, >, =. */
    private static final String[] EVERY = ("ticks if not near 1 of ( 2 + 3 ) <= cups - 4 and weight # floor or who >= trod then way "
        + "else hour * late / stair end ; hears 5 ; lodger 9 floor 12 ; up 3 by 5 ; down 1 by 0 ; hang 12 ; unhang 1 ; "
        + "hour 60 ;").split(" ");

    private static String joined(List<String> tokens) {
        return String.join(" ", tokens);
    }

    static void partII_ofTheEndAtTheLength(Due d) {
        for (int tokens = 0; tokens <= EVERY.length; tokens++) {
            String begin = joined(Arrays.asList(EVERY).subList(0, tokens));
            if (tokens == 0 || EVERY[tokens - 1].equals(";")) {
                whole(d, begin);
                whole(d, begin + " \n");
            } else {
                fault(d, 1, begin.length(), begin);
                fault(d, 1, begin.length() + 2, begin + " \n");
            }
        }
    }

    /** The place of a TOKEN of EVERY. */
    private static int placeOf(int token) {
        int place = 0;
        for (int i = 0; i < token; i++) {
            place += EVERY[i].length() + 1;
        }
        return place;
    }

    static void partII_fault1ItIsNone(Due d) {
        for (int i = 0; i < EVERY.length; i++) {
            for (String none : new String[] {"?", "foo", "Hour", "\u00ff", "\t"}) {
                List<String> tokens = new ArrayList<>(Arrays.asList(EVERY));
                tokens.set(i, none);
                fault(d, 1, placeOf(i), joined(tokens));
            }
        }
    }

    private static final String CLAUSE = "ticks hears lodger up down hang unhang hour";
    private static final String ONE = "1 hour late stair weight floor who trod way ( - near cups if";
    private static final String ASK = ONE + " not";
    private static final String ALL = CLAUSE + " " + ASK + " ) ; + * / < <= > >= = # of by then else end or and foo Up ? \u0080";
    /** What a text may begin with, and which TOKENS can stand behind that. */
    private static final String[][] GRAMMAR = {
        {"", CLAUSE}, {"hang 1;", CLAUSE}, {"ticks 1;", CLAUSE.replace("ticks ", "")}, {"ticks", ONE}, {"ticks 1", "+ - * / ;"},
        {"ticks way", "+ - * / ;"}, {"ticks 1+", ONE}, {"ticks 1-", ONE}, {"ticks 1*", ONE}, {"ticks 1/", ONE}, {"ticks 1+1", "+ - * / ;"},
        {"ticks (", ONE}, {"ticks (1", "+ - * / )"}, {"ticks (1)", "+ - * / ;"}, {"ticks -", ONE}, {"ticks -1", "+ - * / ;"},
        {"ticks near", ONE}, {"ticks near 1", "of"}, {"ticks near 1 of", ONE}, {"ticks near 1 of 1", "+ - * / ;"}, {"ticks cups", ONE},
        {"ticks cups 1", "+ - * / ;"}, {"ticks if", ASK}, {"ticks if not", ASK}, {"ticks if 1", "+ - * / < <= > >= = #"},
        {"ticks if 1<", ONE}, {"ticks if 1<=", ONE}, {"ticks if 1>", ONE}, {"ticks if 1>=", ONE}, {"ticks if 1=", ONE},
        {"ticks if 1#", ONE},
        {"ticks if 1<1", "+ - * / or and then"}, {"ticks if not 1<1", "+ - * / or and then"}, {"ticks if 1<1 or", ASK},
        {"ticks if 1<1 and", ASK}, {"ticks if 1<1 and 1<1", "+ - * / or and then"}, {"ticks if 1<1 or 1<1", "+ - * / or and then"},
        {"ticks if 1<1 then", ONE}, {"ticks if 1<1 then 1", "+ - * / else"}, {"ticks if 1<1 then 1 else", ONE},
        {"ticks if 1<1 then 1 else 1", "+ - * / end"}, {"ticks if 1<1 then 1 else 1 end", "+ - * / ;"}, {"lodger", "1"},
        {"lodger 1", "floor"}, {"lodger 1 floor", "1"}, {"lodger 1 floor 1", ";"}, {"up", "1"}, {"up 1", "by"}, {"up 1 by", "1"},
        {"up 1 by 1", ";"}, {"down", "1"}, {"down 1", "by"}, {"down 1 by", "1"}, {"down 1 by 1", ";"}, {"hang", "1"}, {"hang 1", ";"},
        {"unhang", "1"}, {"unhang 1", ";"}, {"hour", "1"}, {"hour 1", ";"}};

    static void partII_fault1ItCantStandThere(Due d) {
        for (String[] row : GRAMMAR) {
            int place = row[0].length() + 1;
            List<String> can = Arrays.asList(row[1].split(" "));
            for (String token : ALL.split(" ")) {
                String text = row[0] + " " + token;
                if (can.contains(token)) {
                    int found = Due.faultOf(text);
                    d.that("it can stand at the end of \"" + text + "\"", found == NONE || found == 1000 + text.length());
                } else if (!row[0].equals("ticks 1;") || !token.equals("ticks")) {
                    fault(d, 1, place, text);
                }
            }
        }
    }

    static void partII_fault2ANumberThatIsntTold(Due d) {
        fault(d, 2, 6, "ticks 10000;");
        fault(d, 2, 7, "lodger 10 floor 13;");
        fault(d, 2, 15, "lodger 1 floor 13");
        fault(d, 2, 3, "up 4 by 6;");
        fault(d, 2, 8, "up 3 by 6");
        fault(d, 2, 5, "hour 0");
        // the first as TOKENS are come to
        fault(d, 2, 5, "hang 0 ? hang");
        fault(d, 1, 5, "hang ? 0");
    }

    private static final String[] OPENERS = {"(", "-", "near ", "cups ", "if "};

    static void partII_fault3EachKindOfOpenOnes(Due d) {
        for (String opener : OPENERS) {
            fault(d, 3, 6 + 8 * opener.length(), "ticks " + opener.repeat(9));
            fault(d, 1, 6 + 8 * opener.length(), "ticks " + opener.repeat(8));
            fault(d, 1, 6 + 8 * opener.length(), "ticks " + opener.repeat(8) + ";");
        }
        fault(d, 3, 9 + 7 * 4, "ticks if " + "not ".repeat(8));
        fault(d, 1, 9 + 7 * 4, "ticks if " + "not ".repeat(7));
        fault(d, 3, 9 + 7 * 4, "ticks if " + "not ".repeat(7) + "(1)<2");
    }

    static void partII_fault3EightMayBeOpen(Due d) {
        whole(d, "ticks " + "(".repeat(8) + "1" + ")".repeat(8) + ";");
        whole(d, "ticks " + "-".repeat(8) + "1;");
        whole(d, "ticks " + "cups ".repeat(8) + "1;");
        whole(d, "ticks " + "near ".repeat(8) + "1" + " of 2".repeat(8) + ";");
        whole(d, "ticks " + "if ".repeat(8) + "1=1" + " then 1 else 2 end=1".repeat(7) + " then 1 else 2 end;");
        whole(d, "ticks if " + "not ".repeat(7) + "1=1 then 1 else 2 end;");
        whole(d, "ticks (-(-near(cups(1))of 1));");
        fault(d, 3, 14, "ticks " + "(".repeat(9) + "1" + ")".repeat(9) + ";");
        fault(d, 3, 14, "ticks " + "-".repeat(9) + "1;");
    }

    static void partII_fault3MixedOnes(Due d) {
        // two at a time: eight, then one more
        for (String a : OPENERS) {
            for (String b : OPENERS) {
                String eight = (a + b).repeat(4);
                fault(d, 3, 6 + eight.length(), "hears " + eight + a + "1");
                fault(d, 1, 6 + eight.length(), "hears " + eight);
            }
        }
    }

    static void partII_fault3ClosedOnesDontCount(Due d) {
        whole(d, "ticks (((((((1)))))))+(((((((1)))))))*((((((((1))))))));");
        whole(d, "ticks -1-1-1-1-1-1-1-1-1-1;");
        whole(d, "ticks 1--1--1--1--1--1--1--1--1--1;");
        whole(d, "ticks cups 1+cups 1+cups 1+cups 1+cups 1+cups 1+cups 1+cups 1+cups 1;");
        whole(d, "ticks if not 1=1 and not 1=1 and not 1=1 and not 1=1 and not 1=1 and not 1=1 and not 1=1 and not 1=1 then 1 else 2 end;");
        whole(d, "hears near 1 of 1+near 1 of 1+near 1 of 1+near 1 of 1+near 1 of 1+near 1 of 1+near 1 of 1+near 1 of 1+near 1 of 1;");
        whole(d, "hears if 1=1 then 1 else 1 end+if 1=1 then 1 else 1 end+((((((((1))))))));");
    }

    static void partII_fault3NearIsOpenTillItsSecondIsWhole(Due d) {
        whole(d, "ticks near 1 of " + "-".repeat(7) + "1;");
        fault(d, 3, 23, "ticks near 1 of " + "-".repeat(8) + "1;");
        whole(d, "ticks near " + "-".repeat(7) + "1 of 1;");
        fault(d, 3, 18, "ticks near " + "-".repeat(8) + "1 of 1;");
        whole(d, "ticks near 1 of 1+" + "-".repeat(8) + "1;");
        whole(d, "ticks near 1 of 1*" + "-".repeat(8) + "1;");
        whole(d, "ticks near 1 of " + "near 1 of ".repeat(7) + "1;");
        fault(d, 3, 86, "ticks " + "near 1 of ".repeat(8) + "near 1 of 1;");
    }

    static void partII_fault3IfIsOpenTillItsEnd(Due d) {
        whole(d, "ticks if " + "-".repeat(7) + "1<" + "-".repeat(7) + "1 then " + "-".repeat(7) + "1 else " + "-".repeat(7) + "1 end;");
        fault(d, 3, 16, "ticks if " + "-".repeat(8) + "1<1 then 1 else 1 end;");
        fault(d, 3, 18, "ticks if 1<" + "-".repeat(8) + "1 then 1 else 1 end;");
        fault(d, 3, 25, "ticks if 1<1 then " + "-".repeat(8) + "1 else 1 end;");
        fault(d, 3, 32, "ticks if 1<1 then 1 else " + "-".repeat(8) + "1 end;");
        whole(d, "ticks if 1<1 then 1 else 1 end+" + "-".repeat(8) + "1;");
        whole(d, "ticks if not " + "-".repeat(6) + "1<" + "-".repeat(6) + "1 and " + "-".repeat(7) + "1<1 then 1 else 1 end;");
        fault(d, 3, 19, "ticks if not " + "-".repeat(7) + "1<1 then 1 else 1 end;");
        fault(d, 3, 21, "ticks if not 1<" + "-".repeat(7) + "1 then 1 else 1 end;");
    }

    static void partII_fault3AMinusBetweenTwoIsNone(Due d) {
        whole(d, "ticks 9" + "-(1".repeat(8) + ")".repeat(8) + ";");
        fault(d, 3, 32, "ticks 9" + "-(1".repeat(8) + "-(1");
        whole(d, "ticks 1-1-1-1-1-1-1-1-1-1-1;");
    }

    static void partII_fault4ForTheSecondTime(Due d) {
        fault(d, 4, 8, "ticks 1;ticks");
        fault(d, 4, 8, "hears 1;hears");
        fault(d, 4, 9, "ticks 1;\nticks 2;");
        // ticks where no CLAUSE begins can't stand there
        fault(d, 1, 14, "ticks 1;hears ticks;");
        fault(d, 1, 6, "ticks ticks");
    }

    static void partII_fault5NamesOfTicksInHears(Due d) {
        for (String name : new String[] {"weight", "floor", "who", "trod", "way"}) {
            whole(d, "ticks " + name + ";");
            fault(d, 5, 6, "hears " + name + ";");
            fault(d, 5, 6, "hears " + name);
            fault(d, 5, 8, "hears 1+" + name + ";");
            fault(d, 5, 14, "hears ((((((((" + name);
            fault(d, 5, 16, "hears near 1 of " + name);
            fault(d, 5, 9, "hears if " + name + "=1");
            fault(d, 1, 8, "hears 1 " + name);
            fault(d, 1, 0, name + " 1;");
        }
        for (String name : new String[] {"hour", "late", "stair"}) {
            whole(d, "ticks " + name + ";hears " + name + ";");
        }
        fault(d, 1, 6, "hears nobody;");
        fault(d, 1, 6, "ticks nobody;");
    }

    static void partII_fault6The25thClause(Due d) {
        fault(d, 6, 168, "hang 1;".repeat(24) + "hang 0;");
        fault(d, 6, 168, "hang 1;".repeat(24) + "lodger");
        fault(d, 6, 171, "hang 1;".repeat(24) + "\n\n\nhears");
        fault(d, 2, 166, "hang 1;".repeat(23) + "hang 0;hang 1;");
    }

    static void partII_ofOneTheLeast(Due d) {
        String full = "ticks 1;" + "hang 1;".repeat(23);
        fault(d, 4, 169, full + "ticks 1;");
        fault(d, 6, 169, full + "hears 1;");
        fault(d, 1, 169, full + "late 1;");
        fault(d, 1, 169, full + "?");
        fault(d, 1, 169, full + "10000");
        fault(d, 1, 7, "hang 1 10000;");
        fault(d, 1, 14, "ticks ((((((((not");
        fault(d, 1, 15, "ticks ((((((((1(");
        fault(d, 2, 14, "ticks ((((((((10000");
    }

    // ---- THE TEXT

    private static void ticksSays(Due d, int due, String sum) {
        says(d, due, sum);
        d.is("hears " + sum + ";", Houses.ruled("hears " + sum + ";").hears(4), due);
    }

    static void partII_lawsSay0AtLeast99AtMost(Due d) {
        ticksSays(d, 0, "0-1");
        ticksSays(d, 0, "0");
        ticksSays(d, 1, "1");
        ticksSays(d, 98, "98");
        ticksSays(d, 99, "99");
        ticksSays(d, 99, "100");
        ticksSays(d, 99, "9999*9999");
        ticksSays(d, 0, "0-9999*9999");
    }

    static void partII_withoutALaw(Due d) {
        StairRods x = Houses.ruled("hears 3;", 9);
        d.is("WEIGHT and LATE 0", x.ticks(0, 1, true), 9);
        Houses.setDraw(x, 9, 3, NONE);
        x.hour(1);
        d.is("WEIGHT 9 and LATE 9", x.ticks(0, 1, true), 18);
        d.is("hears", x.hears(1), 3);
        StairRods y = Houses.ruled("ticks 3;", 9);
        d.is("ticks", y.ticks(0, 1, true), 3);
        d.is("hears without", y.hears(12), 8);
        StairRods z = Houses.ruled("", 9);
        d.is("an empty text", z.ticks(0, 1, true), 9);
        d.is("an empty text", z.hears(1), 8);
    }

    static void partII_trodIsAsAheadOfThatTread(Due d) {
        StairRods x = Houses.ruled("ticks trod+1;hears 1;", 1);
        for (int i = 1; i <= 4; i++) {
            d.is("the tread " + i, x.tread(0, true, 1), i);
            d.is("ticks now", x.ticks(0, 1, true), i + 1);
        }
    }

    static void partII_wayIs1UpAnd0Down(Due d) {
        StairRods x = Houses.ruled("ticks 10+way;", 1);
        d.is("ticks(0, 1, true)", x.ticks(0, 1, true), 11);
        d.is("ticks(0, 1, false)", x.ticks(0, 1, false), 10);
        for (int n = 1; n <= 3; n++) {
            d.is("up " + n, x.tread(0, true, n), 11);
        }
        d.is("down 1", x.tread(0, false, 1), 10);
        d.is("down 2", x.tread(0, false, 2), 10);
        d.is("down 2", x.tread(0, false, 2), 10);
        d.is("up 3", x.tread(0, true, 3), 11);
        d.is("down 3", x.tread(0, false, 3), 10);
    }

    static void partII_namesAtTheirEdges(Due d) {
        StairRods x = Houses.ruled("ticks weight*10+who;");
        for (int who = 0; who < 6; who++) {
            x.lodger(who == 5 ? 9 : who + 1, 12);
        }
        d.is("LODGER 0", x.ticks(0, 1, true), 10);
        d.is("LODGER 5", x.ticks(5, 1, true), 95);
        x = Houses.ruled("ticks floor;hears stair;");
        x.lodger(1, 1);
        x.lodger(1, 12);
        d.is("FLOOR 1", x.ticks(0, 1, true), 1);
        d.is("FLOOR 12", x.ticks(1, 1, true), 12);
        d.is("STAIR 1", x.hears(1), 1);
        d.is("STAIR 12", x.hears(12), 12);
        for (int late = 0; late <= 9; late++) {
            x = Houses.ruled("ticks late*2;hears late;", 1);
            Houses.setDraw(x, late, 3, NONE);
            x.hour(1);
            d.is("LATE " + late, x.ticks(0, 1, true), late * 2);
            d.is("LATE " + late, x.hears(1), late);
        }
        x = Houses.ruled("ticks hour/101;hears hour-9998;", 1);
        d.is("HOUR 0", x.ticks(0, 1, true), 0);
        Houses.untilHour(x, 9999);
        d.is("HOUR 9999", x.ticks(0, 1, true), 99);
        d.is("HOUR 9999", x.hears(1), 1);
    }

    // ---- PLAYED

    static void partII_oneThatCantBeEndsIt(Due d) {
        StairRods x = new StairRods();
        Due.text(x, "unhang 1;unhang 1;unhang 2;");
        d.is("played(0)", x.played(0), 1);
        d.is("is(3)", x.is(3), 8190 - 2);
        d.is("about(3)", x.about(3), 1);
    }

    static void partII_ofSoManyHoursThoseThatCanPassDo(Due d) {
        for (int hour = 9997; hour <= 9999; hour++) {
            StairRods x = Houses.atHour(hour);
            Due.text(x, "hears 1;hour 2;unhang 1;");
            d.is("played(0) at " + hour, x.played(0), hour == 9997 ? NONE : 1);
            d.is("is(0)", x.is(0), 9999);
            d.is("is(3)", x.is(3), hour == 9997 ? 8188 : 8190);
        }
    }

    static void partII_asByHand(Due d) {
        StairRods x = Houses.ruled("hears 1;lodger 9 floor 12;up 3 by 0;hour 5;unhang 3;down 1 by 0;hang 3;hour 60;");
        d.is("played(0)", x.played(0), NONE);
        StairRods y = Houses.ruled("hears 1;lodger 9 floor 12;up 3 by 0;hour 5;unhang 3;down 1 by 0;hang 3;hour 60;");
        y.lodger(9, 12);
        y.tread(0, true, 3);
        y.hour(5);
        y.hang(3, false);
        y.tread(0, false, 1);
        y.hang(3, true);
        y.hour(60);
        d.same("as by hand", Seen.all(y), Seen.all(x));
    }
}
