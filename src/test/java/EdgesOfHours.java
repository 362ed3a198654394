/** Promises 13 to 18 and 33 to 35: hours that are reckoned, gone through, or held as bits. */
final class EdgesOfHours extends Edges {
    static void all() {
        sets();
        next();
        nextFar();
        nextNone();
        barred();
        barredPairs();
        together();
        togetherHours();
        alone();
        aloneHours();
        secret();
        secretHours();
        pass();
        passHours();
        bits();
        other();
        hush();
        hushHours();
    }

    private static final int[] NO_SETS_OF_FOUR = {0, 16, 17, 4096, -1, -16, MIN, MAX, 1 << 12, 1 << 30};

    private static NumberComes undivided() {
        NumberComes x = some();
        x.day(0);
        return x;
    }

    private static void sets() {
        says(13, "SETS of PEOPLE are bits (told ones; one at least).");
        for (int set : NO_SETS_OF_FOUR) {
            refused("next(" + set + ", 0)", -1, x -> x.next(set, 0));
            refused("together(" + set + ", 0, 9)", -1, x -> x.together(set, 0, 9));
            refused("turn(" + set + ", 0, -1)", -1, x -> x.turn(set, 0, -1));
            refused("give(" + set + ", -1)", NO_WORTH, x -> x.give(set, -1));
            refused("apart(" + set + ", 0)", -1, x -> x.apart(set, 0));
            refused("pairs(" + set + ", 9, -1)", -1, x -> x.pairs(set, 9, -1));
            refusedOn(EdgesOfHours::undivided, "barred(" + set + ", 0)", -1, x -> x.barred(set, 0));
        }
        NumberComes y = crowd(12, 1, 0);
        due("the lowest alone", 5, y.next(1, 5));
        due("the highest alone", 5, y.next(2048, 5));
        due("all twelve", 5, y.next(4095, 5));
        due("a thirteenth", -1, y.next(4096, 5));
        due("all twelve and a thirteenth", -1, y.next(8191, 5));
        due("none of nobody", -1, new NumberComes().next(1, 0));
    }

    private static void next() {
        says(13, "NEXT of a SET from an HOUR on: the first HOUR in which all of it SPEAK.");
        NumberComes x = with(6, 2, 10, 4, 1, 0);
        // 14, 44, 74, ..
        due("from 0 on", 14, x.next(3, 0));
        due("from that hour itself on", 14, x.next(3, 14));
        due("from one behind it on", 44, x.next(3, 15));
        due("from one ahead of it on", 14, x.next(3, 13));
        due("of one alone", 2, x.next(1, 0));
        due("others don't matter", 0, x.next(4, 0));
        // by a day the first of several, though others may be barred
        NumberComes d = with(3, 1);
        d.day(10);
        for (int h = 0; h < 10; h++) due("1 4 7 of a day", h <= 1 ? 1 : h <= 4 ? 4 : h <= 7 ? 7 : 11, d.next(1, h));
        ruled(d, "bars clock=7;");
        d.clock(10);
        for (int h = 0; h < 10; h++) due("1 4 of a day", h <= 1 ? 1 : h <= 4 ? 4 : 11, d.next(1, h));
        ruled(d, "bars clock=1;");
        for (int h = 0; h < 10; h++) due("4 7 of a day", h <= 4 ? 4 : h <= 7 ? 7 : 14, d.next(1, h));
        due("ahead of the first", 9999, with(2, 9999).next(1, 0));
        due("the first of both matters", 9999, with(1, 9999, 9, 0).next(3, 0));
        due("the first of both matters", 9999, with(9, 0, 1, 9999).next(3, 9991));
        says(13, "`long next(int set, long hour)`: NEXT of a SET. NONE: none, and for others.");
        due("hour 0", 0, x.next(4, 0));
        due("hour -1", -1, x.next(4, -1));
        due("the last hour", LAST, x.next(4, LAST));
        due("one more", -1, x.next(4, LAST + 1));
        due("MIN", -1, x.next(4, Long.MIN_VALUE));
        due("MAX", -1, x.next(4, Long.MAX_VALUE));
        refused("next(1, -1)", -1, y -> y.next(1, -1));
        refused("next(1, LAST + 1)", -1, y -> y.next(1, LAST + 1));
        asks("next", y -> y.next(15, 0));
    }

    private static void nextFar() {
        says(13, "FAR (-2): it is above 10 to the 15.");
        // 10 to the 15 leaves 6 by 7, 0 by 10, 16 by 24
        NumberComes x = with(7, 6);
        due("the last hour", LAST, x.next(1, LAST - 6));
        due("the last hour", LAST, x.next(1, LAST));
        x.change(0, 7, 0);
        due("one behind the last", -2, x.next(1, LAST));
        due("one behind the last", -2, x.next(1, LAST - 5));
        due("six ahead of it", LAST - 6, x.next(1, LAST - 6));
        x.day(10);
        x.change(0, 10, 0);
        due("by a day: the last hour", LAST, x.next(1, LAST - 9));
        x.change(0, 10, 1);
        due("by a day: one behind it", -2, x.next(1, LAST - 8));
        due("by a day: nine ahead of it", LAST - 9, x.next(1, LAST - 9));
        x.day(0);
        x.change(0, 1, 0);
        ruled(x, "bars clock#16;");
        due("by a clock: the last hour", LAST, x.next(1, LAST - 23));
        ruled(x, "bars clock#17;");
        due("by a clock: one behind it", -2, x.next(1, LAST - 22));
        due("by a clock: 23 ahead of it", LAST - 23, x.next(1, LAST - 23));
        x.day(999);
        due("by a day and a clock", -2, x.next(1, LAST - 22));
        // 9973 * 9967 * 9949 is below 10 to the 15, with 9941 it is above
        NumberComes y = with(9973, 0, 9967, 0, 9949, 0, 9941, 0);
        long meet = 988939464559L;
        due("exactly, however far", meet, y.next(7, 1));
        due("the 1011th", meet * 1011, y.next(7, meet * 1010 + 1));
        due("the next is above", -2, y.next(7, meet * 1011 + 1));
        due("four of them", -2, y.next(15, 1));
        due("four of them in hour 0", 0, y.next(15, 0));
        farSteps();
        // all four in one hour around the last one, which is the first in which they are
        for (int i = -2; i <= 2; i++) {
            NumberComes v = new NumberComes();
            for (int n : new int[] {9973, 9967, 9949, 9941}) v.person(n, (int) ((LAST + i) % n));
            due("around the last hour: " + i, i <= 0 ? LAST + i : -2, v.next(15, 0));
            due("how often around the last hour: " + i, i <= 0 ? 1 : 0, v.together(15, 1, LAST));
            if (i < 0) due("behind it", -2, v.next(15, LAST + i + 1));
        }
        NumberComes z = crowd(12, 1, 0);
        int[] primes = {9973, 9967, 9949, 9941, 9931, 9929, 9923, 9907, 9901, 9887, 9883, 9871};
        for (int i = 0; i < 12; i++) z.change(i, primes[i], 77);
        due("all twelve", 77, z.next(4095, 0));
        due("all twelve then", -2, z.next(4095, 78));
        due("all twelve from the last hour on", -2, z.next(4095, LAST));
    }

    /** They all meet again only 10 to the 15 less 55 hours later, and others one more than 10 to the 15 later. */
    private static void farSteps() {
        int[][] orders = {{5, 49, 81, 109, 443, 521, 2003}, {2003, 521, 443, 109, 81, 49, 5}, {2003, 5, 521, 49, 443, 81, 109}};
        for (int[] numbers : orders) {
            for (int first = 53; first <= 57; first++) {
                NumberComes x = new NumberComes();
                for (int n : numbers) x.person(n, first);
                due("all from " + first, first, x.next(127, 0));
                due("all from " + first + " again", first <= 55 ? LAST - 55 + first : -2, x.next(127, first + 1));
                due("all from " + first + ", how often", first <= 55 ? 2 : 1, x.together(127, 1, LAST));
                due("all from " + first + ", how often ahead of the last hour", first < 55 ? 2 : 1, x.together(127, 0, LAST));
            }
        }
        for (int[] numbers : new int[][] {{7, 11, 13, 211, 241, 2161, 9091}, {9091, 2161, 241, 211, 13, 11, 7}}) {
            NumberComes x = new NumberComes();
            for (int n : numbers) x.person(n, 0);
            due("in hour 0", 0, x.next(127, 0));
            due("and one behind the last", -2, x.next(127, 1));
            due("how often", 0, x.together(127, 1, LAST));
            for (int i = 0; i < 7; i++) x.change(i, numbers[i], numbers[i] - 1);
            due("one earlier is the last", LAST, x.next(127, 0));
            due("how often", 1, x.together(127, 1, LAST));
        }
    }

    private static void nextNone() {
        says(13, "None: there is none at all.");
        due("two of one number", -1, with(2, 0, 2, 1).next(3, 0));
        due("of 9999 and 9999", -1, with(9999, 0, 9999, 9998).next(3, 0));
        due("9999 and 9999 from 9999 on", 9999, with(9999, 0, 9999, 9999).next(3, 0));
        due("two that bar it among ones that would be far", -1, with(9973, 0, 9967, 1, 9949, 2, 9941, 3, 6, 0, 4, 1).next(63, 0));
        due("the same from the last hour on", -1, with(9973, 0, 9967, 1, 9949, 2, 9941, 3, 6, 0, 4, 1).next(63, LAST));
        NumberComes x = with(1, 10);
        x.day(10);
        due("by a day: a first behind it", -1, x.next(1, 0));
        x.day(11);
        due("by a day: the last of it", 10, x.next(1, 0));
        NumberComes y = with(2, 0, 3, 1);
        y.day(4);
        // of 4: 0 2 and 1
        due("by a day: they never meet", -1, y.next(3, 0));
        y.day(5);
        due("by a day of 5: 4", 4, y.next(3, 0));
        NumberComes z = ruled(with(1, 0), "bars clock>=0;");
        due("all clocks are barred", -1, z.next(1, 0));
        due("all clocks are barred, from the last hour on", -1, z.next(1, LAST));
        NumberComes w = ruled(with(24, 5), "bars clock=5;");
        due("always at a clock that is barred", -1, w.next(1, 0));
        w.clock(23);
        due("by another clock not", 29, w.next(1, 0));
        w.clock(24);
        w.day(24);
        due("by a day that is the clock", -1, w.next(1, 0));
        w.day(25);
        due("by a day that isn't: 5, then 30", 30, w.next(1, 0));
        NumberComes v = ruled(with(1, 0, 1, 0), "bars who=0 and clock%2=0;bars who=1 and clock%2=1;");
        due("each is barred when the other isn't", -1, v.next(3, 0));
        due("each alone", 1, v.next(1, 0));
        v.clock(1);
        due("by a clock of 1: the first is barred", -1, v.next(1, 0));
        due("by a clock of 1: the second isn't", 3, v.next(2, 3));
    }

    private static void barred() {
        says(14, "BARRED: 0 the lower one, 1 the other. NONE: none, by a DAY, and for others.");
        NumberComes x = with(4, 0, 4, 1);
        due("the lower one", 0, x.barred(3, 0));
        due("the other", 1, x.barred(3, 1));
        due("of one alone: none", -1, x.barred(1, 0));
        due("of one alone: none", -1, x.barred(2, 1));
        x.day(2);
        due("by a day", -1, x.barred(3, 0));
        due("by a day", -1, x.barred(3, 1));
        x.day(0);
        due("without a day again", 1, x.barred(3, 1));
        for (int what : new int[] {2, -1, MIN, MAX}) {
            due("what " + what, -1, x.barred(3, what));
            refusedOn(EdgesOfHours::undivided, "barred(15, " + what + ")", -1, y -> y.barred(15, what));
        }
        refused("barred(15, 0) by a day", -1, y -> y.barred(15, 0));
        asks("barred", y -> y.barred(3, 0));
    }

    private static void barredPairs() {
        says(14, "the first two (the lower one, then the other, least) of a SET who are never DUE in one HOUR; none.");
        // 1 and 3 never meet, 2 and 3 neither, 0 meets all
        NumberComes x = with(1, 0, 2, 0, 2, 0, 2, 1);
        due("the lower one is least", 1, x.barred(15, 0));
        due("then the other", 3, x.barred(15, 1));
        due("without the first of them", 2, x.barred(13, 0));
        due("without the first of them", 3, x.barred(13, 1));
        due("without the last", -1, x.barred(7, 0));
        // 0 and 3, 1 and 2: the lower one counts before the other
        NumberComes y = with(9, 0, 25, 0, 25, 1, 9, 1);
        due("the lower one before the other", 0, y.barred(15, 0));
        due("its least other", 3, y.barred(15, 1));
        due("of the two between", 1, y.barred(6, 0));
        due("of the two between", 2, y.barred(6, 1));
        NumberComes z = crowd(12, 1, 0);
        z.change(10, 2, 0);
        z.change(11, 2, 1);
        due("the last two of twelve", 10, z.barred(4095, 0));
        due("the last two of twelve", 11, z.barred(4095, 1));
        due("alike", -1, with(4, 1, 4, 1).barred(3, 0));
        due("firsts that come to 4", 0, with(4, 1, 4, 3).barred(3, 0));
        due("firsts a number apart", -1, with(9999, 0, 9999, 9999).barred(3, 0));
        due("firsts less than it apart", 0, with(9999, 1, 9999, 9999).barred(3, 0));
        due("no common divisor", -1, with(9999, 0, 9998, 9997).barred(3, 0));
        // bars and clocks are not of it
        NumberComes w = ruled(with(1, 0, 1, 0), "bars who=0;");
        due("one who never speaks is due", -1, w.barred(3, 0));
    }

    private static void together() {
        says(15, "TOGETHER: in how many of n HOURS (1 .. 10 to the 15) from one on all of a SET SPEAK.");
        NumberComes x = with(6, 2, 10, 4);
        due("14 is one of 15", 1, x.together(3, 0, 15));
        due("14 is none of 14", 0, x.together(3, 0, 14));
        due("14 alone", 1, x.together(3, 14, 1));
        due("15 alone", 0, x.together(3, 15, 1));
        due("14 .. 43", 1, x.together(3, 14, 30));
        due("14 .. 44", 2, x.together(3, 14, 31));
        due("15 .. 43", 0, x.together(3, 15, 29));
        due("none: they never meet", 0, with(2, 0, 2, 1).together(3, 0, LAST));
        due("none: above 10 to the 15", 0, with(9973, 0, 9967, 0, 9949, 0, 9941, 0).together(15, 1, LAST));
        due("one: in hour 0", 1, with(9973, 0, 9967, 0, 9949, 0, 9941, 0).together(15, 0, LAST));
        due("a first that is far", 1, with(9999, 9999).together(1, 0, 10000));
        due("a first that is far", 0, with(9999, 9999).together(1, 0, 9999));
        NumberComes y = with(1, 9);
        y.day(10);
        due("by a day: the last of it", 1, y.together(1, 0, 10));
        due("by a day: all but the last", 0, y.together(1, 0, 9));
        due("by a day: over its end", 1, y.together(1, 9, 10));
        due("by a day: over its end twice", 2, y.together(1, 9, 11));
        due("by a day: of all", LAST / 10, y.together(1, 1, LAST));
        y.change(0, 1, 10);
        due("by a day: never", 0, y.together(1, 0, LAST));
        NumberComes z = ruled(with(1, 0), "bars clock=23;");
        due("barred at 23", 23, z.together(1, 0, 24));
        due("barred at 23", 24, z.together(1, 0, 25));
        // 10 to the 15 is 24 * 41666666666666 + 16
        due("barred at 23, of all", LAST - 41666666666666L, z.together(1, 0, LAST));
        z.clock(1);
        due("no clock is 23", LAST, z.together(1, 0, LAST));
        ruled(z, "bars clock=0;");
        due("the clock is always 0", 0, z.together(1, 0, LAST));
    }

    private static void togetherHours() {
        says(15, "NONE for others, and if the last of these HOURS is above 10 to the 15.");
        NumberComes x = with(1, 0);
        due("one hour", 1, x.together(1, 0, 1));
        due("all hours but the last", LAST, x.together(1, 0, LAST));
        due("all hours but the first", LAST, x.together(1, 1, LAST));
        due("one too far", -1, x.together(1, 2, LAST));
        due("one too many", -1, x.together(1, 0, LAST + 1));
        due("the last hour", 1, x.together(1, LAST, 1));
        due("and the one behind it", -1, x.together(1, LAST, 2));
        due("behind it", -1, x.together(1, LAST + 1, 1));
        due("no hours", -1, x.together(1, 0, 0));
        due("no hours", -1, x.together(1, LAST, 0));
        due("fewer", -1, x.together(1, 5, -1));
        due("hour -1", -1, x.together(1, -1, 1));
        due("hour -1", -1, x.together(1, -1, 9));
        due("MAX", -1, x.together(1, 0, Long.MAX_VALUE));
        due("MAX", -1, x.together(1, Long.MAX_VALUE, 1));
        due("MAX and MAX", -1, x.together(1, Long.MAX_VALUE, Long.MAX_VALUE));
        due("MIN", -1, x.together(1, Long.MIN_VALUE, Long.MIN_VALUE));
        refused("together(1, 0, 0)", -1, y -> y.together(1, 0, 0));
        refused("together(1, 2, LAST)", -1, y -> y.together(1, 2, LAST));
        asks("together", y -> y.together(3, 0, 1000));
    }

    private static void alone() {
        says(16, "ALONE, of n HOURS (1 .. 100000): in how many nobody SPEAKS, just one, just this one.");
        NumberComes x = with(2, 0, 3, 0);
        // of six: 0 both, 2 4 the first, 3 the second, 1 5 nobody
        due("nobody", 2, x.alone(-1, 0, 6));
        due("just one", 3, x.alone(12, 0, 6));
        due("just the first", 2, x.alone(0, 0, 6));
        due("just the second", 1, x.alone(1, 0, 6));
        due("one hour: nobody", 1, x.alone(-1, 5, 1));
        due("one hour: both", 0, x.alone(12, 6, 1));
        due("100000 hours: nobody", 33333, x.alone(-1, 0, 100000));
        due("100000 hours: the second", 16667, x.alone(1, 0, 100000));
        due("nobody is there", 100000, new NumberComes().alone(-1, 0, 100000));
        due("nobody is there", 0, new NumberComes().alone(12, 0, 100000));
        says(16, "ALONE: who NONE: nobody; 12: just one; else just this one.");
        NumberComes y = crowd(11, 2, 0);
        y.person(2, 1);
        due("12 is nobody's number: just one", 4, y.alone(12, 0, 8));
        due("11 is the twelfth", 4, y.alone(11, 0, 8));
        due("the first is never alone", 0, y.alone(0, 0, 8));
        due("in every hour one speaks", 0, y.alone(-1, 0, 8));
        due("12 is just one where nobody else is told", 4, with(2, 0).alone(12, 0, 8));
        NumberComes z = ruled(with(1, 0, 1, 5), "bars who=0 and clock=23;");
        z.day(10);
        // the second from 5 on of each day, the first not at 23
        due("by a day and a clock: just the second", 0, z.alone(1, 20, 4));
        due("by a day and a clock: nobody in 23", 1, z.alone(-1, 20, 4));
        due("by a day: just the first", 4, z.alone(0, 20, 10));
    }

    private static void aloneHours() {
        says(16, "NONE for others (HOURS as for together()).");
        NumberComes x = with(1, 0);
        for (int who : new int[] {-2, 1, 11, 13, 32, MIN, MAX}) due("who " + who, -1, x.alone(who, 0, 5));
        for (int who : new int[] {-1, 0, 12}) {
            due("n 0", -1, x.alone(who, 0, 0));
            due("n -1", -1, x.alone(who, 0, -1));
            due("n 100001", -1, x.alone(who, 0, 100001));
            due("n MAX", -1, x.alone(who, 0, MAX));
            due("n MIN", -1, x.alone(who, 0, MIN));
            due("hour -1", -1, x.alone(who, -1, 1));
            due("the last hour", who == -1 ? 0 : 1, x.alone(who, LAST, 1));
            due("the last hours", who == -1 ? 0 : 100000, x.alone(who, LAST - 99999, 100000));
            due("one too far", -1, x.alone(who, LAST - 99998, 100000));
            due("behind the last", -1, x.alone(who, LAST + 1, 1));
            due("the last and one behind it", -1, x.alone(who, LAST, 2));
            due("hour MAX", -1, x.alone(who, Long.MAX_VALUE, 1));
            due("hour MIN", -1, x.alone(who, Long.MIN_VALUE, 1));
        }
        refused("alone(4, 0, 5) of four", -1, y -> y.alone(4, 0, 5));
        refused("alone(0, 0, 100001)", -1, y -> y.alone(0, 0, 100001));
        asks("alone", y -> y.alone(-1, 0, 1000));
    }

    private static void secret() {
        says(17, "SECRET of two: an HOUR in which both SPEAK and nobody else who SPEAKS is NEAR one of them:");
        NumberComes x = with(1, 0, 1, 0, 2, 0);
        due("nobody is near", 10, x.secret(0, 1, 0, 10));
        x.near(0, 1, true);
        due("they are near one another", 10, x.secret(0, 1, 0, 10));
        x.near(2, 0, true);
        due("one is near the first, when he speaks", 5, x.secret(0, 1, 0, 10));
        due("the other way", 5, x.secret(1, 0, 0, 10));
        due("from 0: 1", 1, x.secret(0, 1, 0, 0));
        due("from 1: 1", 1, x.secret(0, 1, 1, 0));
        due("from 2: 3", 3, x.secret(0, 1, 2, 0));
        x.near(2, 0, false);
        x.near(2, 1, true);
        due("near the second alone", 5, x.secret(0, 1, 0, 10));
        x.change(2, 1, 0);
        due("always", 0, x.secret(0, 1, 0, 10));
        due("none", -1, x.secret(0, 1, 0, 0));
        ruled(x, "bars who=2 and clock=7;");
        due("but when he is barred", 7, x.secret(0, 1, 0, 0));
        due("but when he is barred", 31, x.secret(0, 1, 8, 0));
        x.near(0, 2, true);
        NumberComes y = with(2, 0, 3, 0);
        due("both speak", 2, y.secret(0, 1, 0, 7));
        due("one who is near nobody", 10, crowd(3, 1, 0).secret(1, 2, 0, 10));
        due("both speak", 1, y.secret(0, 1, 0, 6));
    }

    private static void secretHours() {
        says(17, "the next one of 100000 HOURS from one on (none); of n HOURS (1 .. 100000) how many.");
        // 9901 and 9907 have no common divisor
        NumberComes x = with(9901, 0, 9907, 0);
        long meet = 9901L * 9907;
        due("the first of 100000", meet, x.secret(0, 1, meet, 0));
        due("the last of 100000", meet, x.secret(0, 1, meet - 99999, 0));
        due("one behind them", -1, x.secret(0, 1, meet - 100000, 0));
        due("the last of 100000 counts", 1, x.secret(0, 1, meet - 99999, 100000));
        due("one behind them doesn't", 0, x.secret(0, 1, meet - 100000, 100000));
        due("one hour", 1, x.secret(0, 1, meet, 1));
        due("one hour", 0, x.secret(0, 1, meet + 1, 1));
        due("all of 100000", 100000, with(1, 0, 1, 0).secret(0, 1, 0, 100000));
        says(17, "n 0: the next HOUR (NONE: none), else of n HOURS how many. NONE for others (HOURS as for together()).");
        NumberComes y = with(1, 0, 1, 0);
        due("n 100001", -1, y.secret(0, 1, 0, 100001));
        due("n -1", -1, y.secret(0, 1, 0, -1));
        due("n MIN", -1, y.secret(0, 1, 0, MIN));
        due("n MAX", -1, y.secret(0, 1, 0, MAX));
        due("the last hour", 1, y.secret(0, 1, LAST, 1));
        due("one too far", -1, y.secret(0, 1, LAST, 2));
        due("the last hours", 100000, y.secret(0, 1, LAST - 99999, 100000));
        due("one too far", -1, y.secret(0, 1, LAST - 99998, 100000));
        due("the next of the last hours", LAST - 99999, y.secret(0, 1, LAST - 99999, 0));
        due("one too far", -1, y.secret(0, 1, LAST - 99998, 0));
        for (int n : new int[] {0, 1}) {
            due("hour -1", -1, y.secret(0, 1, -1, n));
            due("behind the last", -1, y.secret(0, 1, LAST + 1, n));
            due("MIN", -1, y.secret(0, 1, Long.MIN_VALUE, n));
            due("MAX", -1, y.secret(0, 1, Long.MAX_VALUE, n));
            int[][] others = {{0, 0}, {1, 1}, {-1, 0}, {0, -1}, {2, 0}, {0, 2}, {12, 0}, {0, 12}, {32, 1}, {MIN, MAX}};
            for (int[] o : others) due("secret of " + o[0] + " and " + o[1], -1, y.secret(o[0], o[1], 0, n));
            refused("secret of one and the same", -1, z -> z.secret(3, 3, 0, n));
            refused("secret with nobody", -1, z -> z.secret(3, 4, 0, n));
            asks("secret", z -> z.secret(0, 1, 0, n));
        }
    }

    private static void pass() {
        says(18, "in each HOUR, from that on, all who SPEAK in it know it behind it, if one who SPEAKS in it knew it ahead:");
        NumberComes x = with(4, 0, 6, 2, 9, 5, 1, 9000);
        // 8: 0 and 1; 14: 1 and 2
        due("in the hour as which it begins", 8, x.pass(0, 8, 1, 0));
        due("one later it is too late", 20, x.pass(0, 9, 1, 0));
        due("through another", 14, x.pass(0, 0, 2, 0));
        due("ahead of that hour he doesn't know it", 32, x.pass(0, 9, 2, 0));
        due("by the lower of two who know it by then", 0, x.pass(0, 9, 2, 1));
        // two who speak in one hour, none of whom knew it ahead
        NumberComes y = with(2, 1, 4, 0, 4, 0, 3, 0);
        due("nobody who speaks in 0 knew it: 3", 3, y.pass(0, 0, 3, 0));
        says(18, "by whom (the lowest who SPEAKS then and knew it).");
        NumberComes z = with(3, 0, 2, 0, 6, 4, 10, 0);
        // known to 1: he tells 0 in 0, both know it in 6; 2 (4, 10, 16) hears it in 4 from 1 alone
        due("by the one who speaks then", 1, z.pass(1, 0, 2, 1));
        due("when", 4, z.pass(1, 0, 2, 0));
        NumberComes w = with(2, 0, 2, 0, 4, 2);
        due("by the lowest, who came to know it before", 0, w.pass(1, 0, 2, 1));
        due("by the one who knew it ahead, not the lower one who hears it too", 1, w.pass(1, 2, 2, 1));
        says(18, "(the same HOUR for one and the same), 1 by whom (NONE for one and the same).");
        for (long h : new long[] {0, 5, START}) {
            due("one and the same", h, x.pass(2, h, 2, 0));
            due("one and the same: by whom", -1, x.pass(2, h, 2, 1));
        }
        due("who never speaks", 7, ruled(with(1, 0), "bars who=0;").pass(0, 7, 0, 0));
    }

    private static void passHours() {
        says(18, "the HOUR in which one comes to know it (of 100000; none);");
        NumberComes x = with(9901, 0, 9907, 0);
        long meet = 9901L * 9907;
        for (int what = 0; what < 2; what++) {
            due("the first of 100000", what == 0 ? meet : 0, x.pass(0, meet, 1, what));
            due("the last of 100000", what == 0 ? meet : 0, x.pass(0, meet - 99999, 1, what));
            due("one behind them", -1, x.pass(0, meet - 100000, 1, what));
            due("never", -1, with(2, 0, 2, 1).pass(0, 0, 1, what));
        }
        says(18, "NONE: none, and for others (HOURS up to 10 to the 14).");
        NumberComes y = with(1, 0, 1, 0);
        due("the last start", START, y.pass(0, START, 1, 0));
        for (int what = 0; what < 2; what++) {
            int asked = what;
            due("one more", -1, y.pass(0, START + 1, 1, what));
            due("one more, one and the same", -1, y.pass(0, START + 1, 0, what));
            due("the last hour", -1, y.pass(0, LAST, 1, what));
            due("hour -1", -1, y.pass(0, -1, 1, what));
            due("hour -1, one and the same", -1, y.pass(0, -1, 0, what));
            due("MIN", -1, y.pass(0, Long.MIN_VALUE, 1, what));
            due("MAX", -1, y.pass(0, Long.MAX_VALUE, 1, what));
            for (int who : new int[] {-1, 2, 12, 32, MIN, MAX}) {
                due("from " + who, -1, y.pass(who, 0, 0, what));
                due("to " + who, -1, y.pass(0, 0, who, what));
                due("from and to " + who, -1, y.pass(who, 0, who, what));
            }
            refused("pass to nobody", -1, z -> z.pass(0, 0, 4, asked));
            asks("pass", z -> z.pass(0, 0, 1, asked));
        }
        for (int what : new int[] {-1, 2, MIN, MAX}) {
            due("what " + what, -1, y.pass(0, 0, 1, what));
            due("what " + what + ", one and the same", -1, y.pass(0, 0, 0, what));
        }
    }

    private static void bits() {
        says(33, "BITS of one of the PEOPLE: 60 HOURS from one on: bit i: SPEAKS in the i-th.");
        NumberComes x = with(1, 0, 1, 59, 1, 60, 60, 0, 59, 0);
        due("all", (1L << 60) - 1, x.bits(0, 0));
        due("the last alone", 1L << 59, x.bits(1, 0));
        due("one behind the last", 0, x.bits(2, 0));
        due("the first alone", 1, x.bits(3, 0));
        due("the last alone", 1L << 59, x.bits(3, 1));
        due("the first and the last", 1L | 1L << 59, x.bits(4, 0));
        NumberComes y = with(1, 6);
        y.day(7);
        due("by a day that begins again", 1L | 1L << 7 | 1L << 14 | 1L << 21 | 1L << 28 | 1L << 35 | 1L << 42 | 1L << 49 | 1L << 56, y.bits(0, 6));
        NumberComes z = ruled(with(1, 0), "bars clock#0;");
        z.clock(59);
        due("by a clock that begins again", 1L | 1L << 59, z.bits(0, 59));
        due("by a clock that begins again", 1L << 1, z.bits(0, 58));
        says(33, "BITS. NONE for others (HOURS up to 10 to the 14).");
        due("the last start", (1L << 60) - 1, x.bits(0, START));
        due("one more", -1, x.bits(0, START + 1));
        due("the last hour", -1, x.bits(0, LAST));
        due("hour -1", -1, x.bits(0, -1));
        due("MIN", -1, x.bits(0, Long.MIN_VALUE));
        due("MAX", -1, x.bits(0, Long.MAX_VALUE));
        for (int who : new int[] {-1, 5, 12, 32, MIN, MAX}) due("who " + who, -1, x.bits(who, 0));
        due("nobody", -1, new NumberComes().bits(0, 0));
        due("the twelfth", (1L << 60) - 1, crowd(12, 1, 0).bits(11, 0));
        due("a thirteenth", -1, crowd(12, 1, 0).bits(12, 0));
        refused("bits(4, 0) of four", -1, w -> w.bits(4, 0));
        asks("bits", w -> w.bits(0, 0));
    }

    private static void other() {
        says(34, "OTHER DAY: in how many of n HOURS (1 .. 100000) from 0 on one SPEAKS by another DAY alone, and by the DAY as it is alone.");
        NumberComes x = with(2, 0);
        // without a day 0 2 4 6 8; by a day of 3: 0 2, 3 5, 6 8
        due("3 and 5", 2, x.other(0, 3, 6, 0));
        due("3 alone", 1, x.other(0, 3, 5, 0));
        due("4 alone", 1, x.other(0, 3, 6, 1));
        due("not yet 4", 0, x.other(0, 3, 4, 1));
        due("one hour", 0, x.other(0, 3, 1, 0));
        due("100000 hours: 3 5 of each six", 33332 + 1, x.other(0, 3, 100000, 0));
        due("100000 hours: 4 of each six", 16666, x.other(0, 3, 100000, 1));
        x.day(3);
        due("no day: 4", 1, x.other(0, 0, 6, 0));
        due("the day as it is: 3 5", 2, x.other(0, 0, 6, 1));
        for (int what = 0; what < 2; what++) due("the same day", 0, x.other(0, 3, 100000, what));
        ruled(x, "bars clock=3;");
        due("barred in 3", 1, x.other(0, 0, 6, 1));
        NumberComes y = with(1, 999);
        due("a day of 999 is behind him", 100000 - 999, y.other(0, 999, 100000, 1));
        due("never by it", 0, y.other(0, 999, 100000, 0));
        says(34, "OTHER DAY (0, 2 .. 999): 0 by that alone, 1 by the DAY as it is alone. NONE for others.");
        NumberComes z = with(1, 1);
        // by a day of 2 the odd ones; without 1 2 3 4 ..
        due("day 2", 4, z.other(0, 2, 10, 1));
        due("day 999: not 999", 1, z.other(0, 999, 1000, 1));
        due("day 999: not yet", 0, z.other(0, 999, 999, 1));
        for (int day : new int[] {1, -1, 1000, MIN, MAX}) due("day " + day, -1, z.other(0, day, 10, 0));
        for (int n : new int[] {0, -1, 100001, MIN, MAX}) due("n " + n, -1, z.other(0, 2, n, 0));
        for (int what : new int[] {-1, 2, MIN, MAX}) due("what " + what, -1, z.other(0, 2, 10, what));
        for (int who : new int[] {-1, 1, 12, 32, MIN, MAX}) due("who " + who, -1, z.other(who, 2, 10, 0));
        refused("other(4, 2, 10, 0) of four", -1, w -> w.other(4, 2, 10, 0));
        refused("other(0, 1, 10, 0)", -1, w -> w.other(0, 1, 10, 0));
        asks("other", w -> w.other(0, 7, 1000, 0));
    }

    private static void hush() {
        says(35, "SILENCE of n HOURS (1 .. 100000) from one on: the longest row of HOURS in which nobody SPEAKS: how long, where the first such begins;");
        NumberComes x = with(5, 4);
        // 4 9 14 ..
        due("0 .. 3", 4, x.hush(0, 10, 0));
        due("the first such", 0, x.hush(0, 10, 1));
        due("from 2 on: 5 .. 8", 5, x.hush(2, 10, 1));
        due("cut at the end: 10 11 12", 3, x.hush(9, 4, 0));
        due("cut at the end: where", 10, x.hush(9, 4, 1));
        due("one hour of silence", 1, x.hush(3, 1, 0));
        due("one hour of silence", 3, x.hush(3, 1, 1));
        due("one hour that isn't", 0, x.hush(4, 1, 0));
        due("where it isn't", -1, x.hush(4, 1, 1));
        due("of 100000", 4, x.hush(0, 100000, 0));
        due("nobody is there", 100000, new NumberComes().hush(3, 100000, 0));
        due("nobody is there", 3, new NumberComes().hush(3, 100000, 1));
        says(35, "SILENCE: 0 how long (0: none), 1 where it begins (NONE: none);");
        due("none", 0, with(1, 0).hush(0, 100000, 0));
        due("none", -1, with(1, 0).hush(0, 100000, 1));
        // a silence goes on where the day begins again
        x.day(8);
        due("by a day: 5 6 7 8 9 10 11", 7, x.hush(0, 24, 0));
        due("by a day: from 5 on", 5, x.hush(0, 24, 1));
        says(35, "CROWD: the HOUR of these in which most SPEAK, the first such, how many.");
        NumberComes y = with(2, 0, 3, 0, 4, 0);
        due("the first such", 0, y.hush(0, 13, 2));
        due("how many", 3, y.hush(0, 13, 3));
        due("from 1 on: 12", 12, y.hush(1, 12, 2));
        due("from 1 on: 12 isn't of these", 4, y.hush(1, 11, 2));
        due("two", 2, y.hush(1, 11, 3));
        due("one hour", 7, y.hush(7, 1, 2));
        due("nobody in it", 0, y.hush(7, 1, 3));
        NumberComes z = crowd(12, 1, 5);
        due("all twelve", 12, z.hush(0, 6, 3));
        due("all twelve", 5, z.hush(0, 100, 2));
        due("nobody is there", 9, new NumberComes().hush(9, 5, 2));
        due("nobody is there", 0, new NumberComes().hush(9, 5, 3));
    }

    private static void hushHours() {
        says(35, "CROWD: 2 the HOUR, 3 how many. NONE for others (HOURS as for together()).");
        NumberComes x = with(1, 0);
        for (int what = 0; what < 4; what++) {
            int asked = what;
            due("n 0", -1, x.hush(0, 0, what));
            due("n -1", -1, x.hush(0, -1, what));
            due("n 100001", -1, x.hush(0, 100001, what));
            due("n MIN", -1, x.hush(0, MIN, what));
            due("n MAX", -1, x.hush(0, MAX, what));
            due("hour -1", -1, x.hush(-1, 1, what));
            due("one too far", -1, x.hush(LAST - 99998, 100000, what));
            due("one too far", -1, x.hush(LAST, 2, what));
            due("behind the last", -1, x.hush(LAST + 1, 1, what));
            due("MIN", -1, x.hush(Long.MIN_VALUE, 1, what));
            due("MAX", -1, x.hush(Long.MAX_VALUE, 1, what));
            refused("hush(0, 100001, ..)", -1, y -> y.hush(0, 100001, asked));
            asks("hush", y -> y.hush(0, 1000, asked));
        }
        due("the last hours", 0, x.hush(LAST - 99999, 100000, 0));
        due("the last hours", LAST - 99999, x.hush(LAST - 99999, 100000, 2));
        due("the last hour", LAST, x.hush(LAST, 1, 2));
        due("the last hour", 1, x.hush(LAST, 1, 3));
        due("the last hour of silence", LAST, new NumberComes().hush(LAST, 1, 1));
        for (int what : new int[] {-1, 4, MIN, MAX}) due("what " + what, -1, x.hush(0, 10, what));
    }
}
