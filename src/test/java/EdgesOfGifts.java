/** Promises 23 to 29, 36 and 37: numbers that are given, worths, and what is sought among numbers and people. */
final class EdgesOfGifts extends Edges {
    static void all() {
        given();
        need();
        needFull();
        got();
        worth();
        worthByText();
        give();
        giveBest();
        giveOthers();
        mend();
        mendNone();
        cover();
        coverHours();
        apart();
        apartOthers();
        child();
        childOthers();
        pairs();
        pairsOthers();
    }

    private static void given() {
        says(23, "A GIVEN NUMBER (1 .. 9999): how many there are.");
        NumberComes x = new NumberComes();
        due("the least", 1, x.given(1));
        due("the greatest", 2, x.given(9999));
        due("so many", 2, x.about(6));
        says(23, "NONE for others, one that is told, or if there are 6.");
        for (int number : new int[] {0, -1, 10000, MIN, MAX, 65536 + 4}) refused("given(" + number + ")", -1, y -> y.given(number));
        // 3 and 6 are told
        refused("the first that is told", -1, y -> y.given(3));
        refused("the last that is told", -1, y -> y.given(6));
        for (int i = 3; i <= 6; i++) due("given", i, x.given(i));
        due("the 7th", -1, x.given(7));
        due("one of six again", -1, x.given(1));
        due("so many", 6, x.about(6));
        refusedOn(Edges::full, "the 7th", -1, y -> y.given(7));
        refusedOn(Edges::full, "one of six again", -1, y -> y.given(6));
        says(23, "GIVEN: NUMBERS that may be given (6 at most, told one by one, unlike).");
        // the sixth may be given as well: 1 .. 6, of which the worth is greatest by 6 alone
        NumberComes z = ruled(with(7, 0, 6, 0), "worth 0-got;");
        for (int i = 1; i <= 6; i++) z.given(i);
        z.need(0, 1, 1, 30);
        // with 6 of 30 hours: 1 2 3 6 five times, 4 0 12 24 and 5 0 only
        due("the worth", -1, z.give(1, -1));
        due("the fifth of six", 5, z.give(1, 0));
        z.change(1, 5, 0);
        // with 5: 1 5 six times, 2 0 10 20, 3 0 15, 4 0 20, 6 0
        due("the sixth of six", 6, z.give(1, 0));
        due("numbers are as they were", 7, z.about(100));
    }

    private static void need() {
        says(24, "NEEDS (12 at most): two PEOPLE, ASKED (1 .. 999 times), of so many HOURS (1 .. 100000) from 0 on:");
        NumberComes x = with(1, 0, 1, 0);
        due("the least", 0, x.need(0, 1, 1, 1));
        due("the greatest", 1, x.need(1, 0, 999, 100000));
        due("it is got", 1, x.worth(0));
        due("it is got", 1, x.worth(1));
        says(24, "A NEED: its number. NONE for others, one and the same, or if there are 12.");
        for (int asked : new int[] {0, -1, 1000, MIN, MAX}) refused("asked " + asked, -1, y -> y.need(0, 1, asked, 10));
        for (int hours : new int[] {0, -1, 100001, MIN, MAX}) refused("hours " + hours, -1, y -> y.need(0, 1, 5, hours));
        for (int who : new int[] {0, 3}) refused("one and the same", -1, y -> y.need(who, who, 5, 10));
        for (int who : new int[] {-1, 4, 11, 12, 32, MIN, MAX}) {
            refused("need of " + who, -1, y -> y.need(who, 0, 5, 10));
            refused("need with " + who, -1, y -> y.need(0, who, 5, 10));
        }
        refusedOn(NumberComes::new, "need of nobody", -1, y -> y.need(0, 1, 5, 10));
        NumberComes z = some();
        z.need(0, 0, 5, 10);
        due("a refused one takes no number", 2, z.need(0, 1, 5, 10));
    }

    private static void needFull() {
        says(24, "one and the same, or if there are 12.");
        NumberComes x = with(1, 0, 1, 0);
        for (int i = 0; i < 12; i++) due("need", i, x.need(0, 1, 1 + i, 1 + i));
        due("the 13th", -1, x.need(0, 1, 1, 1));
        due("so many", 12, x.about(7));
        due("worth of the twelfth", 1, x.worth(11));
        due("worth of all", 12, x.worth(-1));
        refusedOn(Edges::full, "the 13th", -1, y -> y.need(0, 1, 1, 1));
        refusedOn(Edges::full, "the 13th, one and the same", -1, y -> y.need(1, 1, 1, 1));
    }

    private static void got() {
        says(25, "GOT: TOGETHER of both.");
        NumberComes x = ruled(with(6, 2, 10, 4), "worth got;");
        // 14, 44
        x.need(0, 1, 1, 14);
        x.need(0, 1, 1, 15);
        x.need(0, 1, 1, 44);
        x.need(1, 0, 1, 45);
        int[] want = {0, 1, 1, 2};
        for (int i = 0; i < 4; i++) {
            due("worth", want[i], x.worth(i));
        }
        x.need(0, 1, 1, 100000);
        due("as TOGETHER tells", x.together(3, 0, 100000), x.worth(4));
    }

    private static void worth() {
        says(25, "1 if GOT is ASKED or more, else 0");
        // 0, 6, 12: three times of 13 hours
        NumberComes x = with(2, 0, 3, 0);
        x.need(0, 1, 2, 13);
        x.need(0, 1, 3, 13);
        x.need(0, 1, 4, 13);
        x.need(0, 1, 3, 12);
        int[] want = {1, 1, 0, 0};
        for (int i = 0; i < 4; i++) due("worth", want[i], x.worth(i));
        due("of all", 2, x.worth(-1));
        ruled(x, "bars clock=12;");
        due("a text without worth: barred in 12", 0, x.worth(1));
        x.day(6);
        x.by(-1);
        // by a day of 6: 0, 6, 12
        due("by a day", 1, x.worth(1));
        x.change(1, 3, 6);
        due("by a day never", 0, x.worth(0));
        says(25, "WORTH: need NONE: of all; else of this. -1000000 for others.");
        due("of none", 0, new NumberComes().worth(-1));
        due("this of none", NO_WORTH, new NumberComes().worth(0));
        for (int need : new int[] {-2, 2, 3, 12, MIN, MAX}) refused("worth(" + need + ") of two", NO_WORTH, y -> y.worth(need));
        for (int need : new int[] {-2, 12, 13}) refusedOn(Edges::full, "worth(" + need + ") of twelve", NO_WORTH, y -> y.worth(need));
        asks("worth", y -> y.worth(-1));
    }

    private static void worthByText() {
        says(25, "WORTH of a NEED: worth (-9999 at least, 9999 at most;");
        int[] want = {9998, 9999, 9999, 9999, -9998, -9999, -9999, -9999};
        String[] sums = {"9998", "9999", "9999+1", "9999*9999", "-9998", "-9999", "-9999-1", "-9999*9999"};
        for (int i = 0; i < want.length; i++) {
            NumberComes x = ruled(with(1, 0, 1, 0), "worth " + sums[i] + ";");
            for (int j = 0; j < 12; j++) x.need(0, 1, 1, 1);
            due("worth " + sums[i], want[i], x.worth(11));
            due("worth of all twelve: " + sums[i], 12 * want[i], x.worth(-1));
        }
        NumberComes y = ruled(with(1, 0, 1, 0), "worth got-asked;");
        y.need(0, 1, 5, 7);
        due("a worth clause", 2, y.worth(0));
        y.by(-1);
        due("without", 1, y.worth(0));
        ruled(y, "");
        due("an empty text is without", 1, y.worth(0));
    }

    private static void give() {
        says(26, "GIVE to a SET (2 at most): of all ways to give each a GIVEN NUMBER (FIRSTS as they are) that of greatest WORTH of all NEEDS,");
        NumberComes x = ruled(with(7, 1, 9, 0), "worth got;");
        x.need(0, 1, 1, 13);
        x.given(4);
        x.given(3);
        x.given(2);
        // the first from 1: by 4 1 5 9, by 3 1 4 7 10, by 2 1 3 5 7 9 11; the second 0 9
        due("to one: the worth", 1, x.give(1, -1));
        due("to one: 9 is of 4", 4, x.give(1, 0));
        // by 2 and 4 never, by 4 and 3: 9; by 3 and 2: 4 10; by 3 and 4: 4
        due("to two: the worth", 2, x.give(3, -1));
        due("to two: the first", 3, x.give(3, 0));
        due("to two: the second", 2, x.give(3, 1));
        due("numbers are as they were", 7, x.about(100));
        due("numbers are as they were", 9, x.about(101));
        // the first as he is: 1 8; the second by 4 8, by 3 none, by 2 8
        due("to the second alone: the worth", 1, x.give(2, -1));
        due("to the second alone", 4, x.give(2, 1));
        NumberComes y = ruled(crowd(12, 5, 0), "worth -9999;");
        for (int i = 0; i < 12; i++) y.need(i, (i + 1) % 12, 1, 1);
        y.given(1);
        due("the least worth is no -1000000", -119988, y.give(2049, -1));
        due("the first and the last of twelve", 1, y.give(2049, 11));
        NumberComes z = with(5, 0);
        z.given(8);
        due("without needs: worth 0", 0, z.give(1, -1));
        due("without needs: the only one", 8, z.give(1, 0));
    }

    private static void giveBest() {
        says(26, "of like ones that with the earlier GIVEN one for the lowest of them, then the next, ..");
        NumberComes x = with(5, 0, 7, 0, 6, 0);
        x.given(9);
        x.given(2);
        x.given(1);
        due("all alike: the earliest", 9, x.give(3, 0));
        due("all alike: the earliest", 9, x.give(3, 1));
        x.need(0, 1, 4, 8);
        // 9 is 0 alone; 2 and 2, 2 and 1, 1 and 2, 1 and 1 get four: the first of these ways
        due("for the lowest the earlier one", 2, x.give(3, 0));
        due("then the next", 2, x.give(3, 1));
        x.need(0, 1, 8, 8);
        due("both needs: 1 and 1", 1, x.give(3, 0));
        due("both needs: 1 and 1", 1, x.give(3, 1));
        // one need by the first with the third: he has his number still
        NumberComes y = with(5, 0, 7, 0, 6, 0);
        y.given(4);
        y.given(3);
        y.need(0, 2, 2, 12);
        // with 6: by 4 0; by 3 0 6
        due("the lowest of two has 3", 3, y.give(3, 0));
        due("the other the earlier one", 4, y.give(3, 1));
    }

    private static void giveOthers() {
        says(26, "who NONE: the WORTH, else his NUMBER. -1000000: nothing is GIVEN, he isn't of it, and for others.");
        NumberComes x = with(5, 0, 7, 0, 6, 0);
        x.need(0, 1, 1, 1);
        due("nothing is given", NO_WORTH, x.give(1, -1));
        due("nothing is given", NO_WORTH, x.give(1, 0));
        due("nothing is given", NO_WORTH, x.give(3, 1));
        x.given(4);
        due("to one", 1, x.give(4, -1));
        due("to two", 1, x.give(5, -1));
        due("to three", NO_WORTH, x.give(7, -1));
        due("to three: one of them", NO_WORTH, x.give(7, 0));
        due("not of it", NO_WORTH, x.give(3, 2));
        due("not of it", NO_WORTH, x.give(5, 1));
        for (int who : new int[] {-2, 3, 12, 32, MIN, MAX}) due("who " + who, NO_WORTH, x.give(3, who));
        refused("give to three", NO_WORTH, y -> y.give(7, -1));
        refused("give to all", NO_WORTH, y -> y.give(15, -1));
        refused("give of one who isn't of it", NO_WORTH, y -> y.give(3, 2));
        asks("give to one", y -> y.give(2, -1));
        asks("give to two", y -> y.give(9, 3));
        // by the text that rules a number may be barred, and so is he behind the call as he was ahead of it
        NumberComes z = ruled(with(5, 0, 1, 0), "bars number<3;worth got;");
        z.given(1);
        z.given(2);
        z.need(0, 1, 1, 20);
        due("all are barred", 0, z.give(1, -1));
        yes("as he was", z.speaks(0, 5));
        no("as he was", z.speaks(0, 6));
        no("the other too", z.speaks(1, 5));
        z.change(1, 3, 0);
        due("a given number that is barred", 0, z.give(1, -1));
        z.given(3);
        due("one that isn't: 0 3 .. 18", 7, z.give(1, -1));
        due("one that isn't", 3, z.mend(1));
    }

    private static void mend() {
        says(27, "CHANGE: one of the PEOPLE and a GIVEN NUMBER by which WORTH is greatest, above what it is; of like ones the lowest of them, then the earlier GIVEN one; none.");
        NumberComes x = with(9, 0, 9, 0, 9, 0);
        x.given(3);
        x.given(1);
        x.need(0, 1, 2, 9);
        due("no change of one is enough", NO_WORTH, x.mend(0));
        x.change(1, 3, 0);
        x.change(0, 6, 0);
        // 0 and 6 are two already
        due("it is what it is", NO_WORTH, x.mend(0));
        x.need(0, 1, 3, 9);
        due("who", 0, x.mend(0));
        due("the earlier one of 3 and 1", 3, x.mend(1));
        due("the worth by it", 2, x.mend(2));
        // both could be changed: the lowest of them
        NumberComes y = with(4, 0, 4, 0);
        y.given(7);
        y.given(5);
        y.given(6);
        ruled(y, "worth 0-got;");
        y.need(0, 1, 1, 30);
        // 4: eight times; with 7: 0 28; with 5: 0 20; with 6: 0 12 24
        due("the worth as it is", -8, y.worth(-1));
        due("the lowest of them", 0, y.mend(0));
        due("the earlier of 7 and 5", 7, y.mend(1));
        due("the worth", -2, y.mend(2));
        due("numbers are as they were", 4, y.about(100));
        NumberComes z = crowd(12, 4, 0);
        z.given(2);
        z.change(11, 9, 0);
        z.change(10, 2, 0);
        z.need(10, 11, 3, 6);
        due("the last of twelve", 11, z.mend(0));
        due("the last of twelve", 2, z.mend(1));
        due("the last of twelve", 1, z.mend(2));
    }

    private static void mendNone() {
        says(27, "CHANGE: 0 who, 1 the NUMBER, 2 the WORTH by it. -1000000: none, and for others.");
        NumberComes x = with(9, 0, 1, 0);
        x.need(0, 1, 9, 9);
        for (int what = 0; what < 3; what++) due("nothing is given", NO_WORTH, x.mend(what));
        x.given(1);
        due("0 who", 0, x.mend(0));
        due("1 the number", 1, x.mend(1));
        due("2 the worth", 1, x.mend(2));
        for (int what : new int[] {-1, 3, MIN, MAX}) {
            due("mend(" + what + ")", NO_WORTH, x.mend(what));
            refused("mend(" + what + ")", NO_WORTH, y -> y.mend(what));
        }
        x.change(0, 1, 0);
        for (int what = 0; what < 3; what++) due("it is the greatest already", NO_WORTH, x.mend(what));
        NumberComes y = with(9, 0, 1, 0);
        y.given(1);
        for (int what = 0; what < 3; what++) due("without needs", NO_WORTH, y.mend(what));
        NumberComes z = new NumberComes();
        z.given(1);
        for (int what = 0; what < 3; what++) due("without people", NO_WORTH, z.mend(what));
        for (int what = 0; what < 3; what++) {
            int asked = what;
            asks("mend(" + what + ")", w -> w.mend(asked));
        }
        // one better by one alone is above
        NumberComes w = ruled(with(4, 0, 1, 0), "worth got;");
        w.need(0, 1, 1, 12);
        w.given(4);
        due("as many isn't above", NO_WORTH, w.mend(0));
        w.given(5);
        due("nor are as many otherwise: 0 5 10", NO_WORTH, w.mend(0));
        w.given(3);
        due("one more is: 0 3 6 9", 0, w.mend(0));
        due("one more is", 4, w.mend(2));
    }

    private static void cover() {
        says(28, "COVER: the fewest of the PEOPLE of whom in every HOUR of some on one SPEAKS:");
        due("one", 1, with(1, 0, 1, 0).cover());
        due("two", 3, with(2, 0, 2, 1).cover());
        due("one is fewer than two", 4, with(2, 0, 2, 1, 1, 0).cover());
        NumberComes x = new NumberComes();
        for (int i = 0; i < 12; i++) x.person(12, i);
        due("all twelve", 4095, x.cover());
        x.change(5, 12, 6);
        due("none: one hour of twelve", -1, x.cover());
        says(28, "of like ones the lowest bits; none;");
        due("the lowest bits", 3, with(2, 0, 2, 1, 2, 0, 2, 1).cover());
        due("the lowest bits", 6, with(9, 0, 2, 1, 2, 0, 2, 1).cover());
        due("the fewest before the lowest bits", 6, with(4, 0, 2, 0, 2, 1, 4, 2).cover());
        says(28, "COVER. NONE: none (also without PEOPLE). FAR.");
        due("none", -1, with(2, 0).cover());
        due("without people", -1, new NumberComes().cover());
        due("barred at one clock", -1, ruled(with(1, 0), "bars clock=23;").cover());
        asks("cover", y -> y.cover());
    }

    private static void coverHours() {
        says(28, "HOURS from 10000 to 10000 + P less 1, P the least common multiple of all NUMBERS and CLOCK (with a DAY of DAY and CLOCK);");
        due("from the greatest first on", 1, with(1, 9999).cover());
        due("two from the greatest first on", 3, with(2, 9999, 2, 9998).cover());
        due("three from 0 on", 7, with(3, 0, 3, 1, 3, 2).cover());
        // each hour of P alone is wanting
        for (int i = 0; i < 12; i++) {
            NumberComes x = ruled(with(3, 0, 3, 1, 3, 2), "bars clock=" + i + " and who=clock%3;");
            x.clock(12);
            due("hour " + i + " of 12 is wanting", -1, x.cover());
        }
        NumberComes y = with(1, 0, 1, 5);
        y.day(6);
        due("by a day", 1, y.cover());
        y.change(0, 5, 0);
        due("by a day: 0 and 5 alone", -1, y.cover());
        y.change(1, 1, 1);
        due("by a day: 0 5, and from 1 on", 3, y.cover());
        y.day(5);
        due("by a day of 5", 3, y.cover());
        y.change(0, 9999, 9999);
        due("by a day: a first behind it", -1, y.cover());
        says(28, "FAR if P is above 5040.");
        due("P is 5040", 2, with(5040, 0, 1, 0).cover());
        NumberComes z = with(5041, 0, 1, 0);
        z.clock(1);
        due("P is 5041", -2, z.cover());
        z.change(0, 5040, 0);
        due("P is 5040", 2, z.cover());
        z.clock(11);
        due("P is 55440: the clock counts", -2, z.cover());
        due("P is 5040 * 11: all numbers count", -2, with(5040, 0, 11, 0, 1, 0).cover());
        due("P is 24 * 211", -2, with(211, 0, 1, 0).cover());
        due("P is 24 * 209", 2, with(209, 0, 1, 0).cover());
        due("P is far above", -2, with(9999, 0, 9998, 0, 9997, 0, 9995, 0, 9991, 0, 9973, 0, 9967, 0, 1, 0).cover());
        NumberComes w = with(9999, 0, 1, 0);
        w.day(720);
        w.clock(7);
        due("by a day P is 5040, numbers don't count", 2, w.cover());
        w.day(721);
        due("by a day P is 721", 2, w.cover());
        w.clock(6);
        due("by a day P is 4326", 2, w.cover());
        w.day(841);
        due("by a day P is 5046", -2, w.cover());
        w.day(999);
        w.clock(5);
        due("by a day P is 4995", 2, w.cover());
        w.clock(60);
        due("by a day P is 19980", -2, w.cover());
    }

    private static void apart() {
        says(29, "APART: FIRSTS below their NUMBERS (0 and up) for a SET (5 at most, of NUMBERS up to 60), by which, without a DAY and bars, no two are ever DUE in one HOUR:");
        NumberComes x = crowd(6, 5, 3);
        for (int i = 0; i < 5; i++) due("five of 5", i, x.apart(31, i));
        due("one alone", 0, x.apart(32, 5));
        due("the last five", 4, x.apart(62, 5));
        due("six", -1, x.apart(63, 0));
        x.change(0, 4, 3);
        due("4 and 5 have no common divisor", -1, x.apart(3, 0));
        x.change(0, 60, 0);
        x.change(1, 60, 59);
        due("60 and 60", 0, x.apart(3, 0));
        due("60 and 60", 1, x.apart(3, 1));
        x.change(1, 1, 0);
        due("60 and 1", -1, x.apart(3, 0));
        due("1 alone", 0, x.apart(2, 1));
        due("five of 4", -1, crowd(5, 4, 0).apart(31, 0));
        due("five of 60", 4, crowd(5, 60, 0).apart(31, 4));
        NumberComes y = ruled(with(2, 0, 2, 0), "bars who=0;");
        y.day(2);
        due("without a day and bars", 1, y.apart(3, 1));
        says(29, "the least for the lowest of them, then the next, ..; none.");
        // 2 from 0, 4 from 1, 4 from 3
        int[] want = {0, 1, 3};
        for (int i = 0; i < 3; i++) due("2 4 4", want[i], with(2, 0, 4, 0, 4, 0).apart(7, i));
        int[] other = {0, 2, 1};
        for (int i = 0; i < 3; i++) due("4 4 2", other[i], with(4, 0, 4, 0, 2, 0).apart(7, i));
        int[] three = {0, 1, 2};
        for (int i = 0; i < 3; i++) due("6 10 15", three[i], with(6, 0, 10, 0, 15, 0).apart(7, i));
        for (int i = 0; i < 3; i++) due("2 4 2", -1, with(2, 0, 4, 0, 2, 0).apart(7, i));
    }

    private static void apartOthers() {
        says(29, "his FIRST. NONE: none, he isn't of it, and for others (more than 5, a NUMBER above 60).");
        NumberComes x = with(60, 0, 61, 0, 60, 0, 6, 0, 6, 0, 6, 0, 6, 0);
        due("60", 0, x.apart(1, 0));
        due("61 alone", -1, x.apart(2, 1));
        due("60 and 61", -1, x.apart(3, 0));
        due("60 and 60, one between them isn't of it", 1, x.apart(5, 2));
        due("five", 0, x.apart(4 + 8 + 16 + 32 + 64, 2));
        due("six", -1, x.apart(1 + 4 + 8 + 16 + 32 + 64, 0));
        due("seven", -1, x.apart(127, 0));
        due("not of it", -1, x.apart(5, 1));
        due("not of it", -1, x.apart(5, 3));
        for (int who : new int[] {-1, -2, 7, 12, 32, MIN, MAX}) due("who " + who, -1, x.apart(5, who));
        due("9999", -1, with(9999, 0, 2, 0).apart(3, 1));
        due("62 and 2", -1, with(62, 0, 2, 0).apart(3, 1));
        due("60 and 2", 1, with(60, 0, 2, 0).apart(3, 1));
        due("2 and 62", -1, with(2, 0, 62, 0).apart(3, 0));
        due("2 alone, though another has 62", 0, with(62, 0, 2, 0).apart(2, 1));
        due("61 alone", -1, with(61, 0).apart(1, 0));
        refused("apart of one who isn't of it", -1, y -> y.apart(5, 1));
        refusedOn(Edges::full, "apart of six", -1, y -> y.apart(63, 1));
        asks("apart", y -> y.apart(5, 2));
    }

    private static void child() {
        says(36, "the least NUMBER up to one (1 .. 999), of it the least FIRST below it, by which (without a DAY and bars) it would be DUE in some HOUR with each of both, and in none with any of the others; none.");
        NumberComes x = with(4, 1, 6, 2, 2, 0, 3, 0);
        due("kept from nobody", 1000, x.child(0, 1, 0, 1));
        // never with 3 from 0: 3 from 1 or 2, with 6 from 2: 3 from 2
        due("kept from the fourth", 3002, x.child(0, 1, 8, 3));
        due("kept from the fourth, up to 2", -1, x.child(0, 1, 8, 2));
        due("the other way", 3002, x.child(1, 0, 8, 999));
        // never with 2 from 0, with 6 from 2: none
        due("none", -1, x.child(0, 1, 4, 999));
        due("none", -1, x.child(0, 1, 12, 999));
        // kept from 1: nobody can be
        due("kept from number 1", -1, with(2, 0, 2, 0, 1, 0).child(0, 1, 4, 999));
        due("kept from number 1 with a far first", -1, with(2, 0, 2, 0, 1, 9999).child(0, 1, 4, 999));
        NumberComes y = with(1, 0, 1, 0, 997, 0, 991, 1);
        due("997 is the least that can be kept from 997", 997001, y.child(0, 1, 4, 999));
        due("up to 997", 997001, y.child(0, 1, 4, 997));
        due("up to 996", -1, y.child(0, 1, 4, 996));
        due("from 991: 991 from 0", 991000, y.child(0, 1, 8, 999));
        due("from both", -1, y.child(0, 1, 12, 999));
        due("kept from 999", 3001, with(1, 0, 1, 0, 999, 0).child(0, 1, 4, 999));
        due("the greatest first", 37036, with(37, 36, 1, 0, 37, 0).child(0, 1, 4, 999));
        // with each: in one hour with the one, in another with the other
        due("with each of two who never meet", 1000, with(2, 0, 2, 1).child(0, 1, 0, 999));
        NumberComes z = ruled(with(4, 1, 6, 2, 2, 0, 3, 0), "bars who<4;");
        z.day(2);
        due("without a day and bars", 3002, z.child(0, 1, 8, 999));
    }

    private static void childOthers() {
        says(36, "A CHILD of two, kept from a set of others (bits; none of both):");
        NumberComes x = crowd(12, 2, 0);
        x.change(11, 2, 1);
        due("kept from the twelfth", 2000, x.child(0, 1, 2048, 999));
        for (int set : new int[] {1, 2, 3, 2049, 2050, 4096, 4096 + 2048, -1, MIN, MAX}) {
            due("kept from " + set, -1, x.child(0, 1, set, 999));
        }
        due("of the twelfth and the first", 1000, x.child(11, 0, 0, 999));
        due("kept from one like the first", -1, x.child(11, 0, 2, 999));
        says(36, "A CHILD: 1000 NUMBER + FIRST. NONE: none, and for others.");
        NumberComes y = with(1, 0, 1, 0);
        due("up to 1", 1000, y.child(0, 1, 0, 1));
        due("up to 999", 1000, y.child(0, 1, 0, 999));
        for (int most : new int[] {0, -1, 1000, MIN, MAX}) {
            due("up to " + most, -1, y.child(0, 1, 0, most));
            refused("child up to " + most, -1, z -> z.child(0, 1, 4, most));
        }
        for (int who : new int[] {0, 1}) due("one and the same", -1, y.child(who, who, 0, 999));
        for (int who : new int[] {-1, 2, 12, 32, MIN, MAX}) {
            due("of " + who, -1, y.child(who, 0, 0, 999));
            due("and " + who, -1, y.child(0, who, 0, 999));
        }
        due("kept from one who isn't told", -1, y.child(0, 1, 4, 999));
        refused("child kept from one of both", -1, z -> z.child(0, 1, 2, 999));
        refused("child kept from one who isn't told", -1, z -> z.child(0, 1, 16, 999));
        asks("child", z -> z.child(0, 1, 4, 999));
    }

    private static void pairs() {
        says(37, "PAIRS of a SET (2, 4, 6 or 8) by n HOURS (1 .. 100000) from 0 on: all in twos: that by which TOGETHER of all twos is greatest in all,");
        NumberComes x = crowd(10, 1, 0);
        due("two", 100000, x.pairs(3, 100000, -1));
        due("four", 200000, x.pairs(15, 100000, -1));
        due("six", 300000, x.pairs(63, 100000, -1));
        due("eight", 400000, x.pairs(255, 100000, -1));
        due("one hour", 4, x.pairs(255, 1, -1));
        NumberComes y = with(2, 0, 2, 1, 2, 0, 2, 1);
        due("0 2 and 1 3", 10, y.pairs(15, 10, -1));
        due("0 2 and 1 3", 9, y.pairs(15, 9, -1));
        int[] want = {2, 3, 0, 1};
        for (int i = 0; i < 4; i++) due("his partner", want[i], y.pairs(15, 10, i));
        due("who never meet", 0, y.pairs(3, 100000, -1));
        due("who never meet: his partner all the same", 1, y.pairs(3, 100000, 0));
        y.change(3, 1, 0);
        y.day(2);
        y.change(0, 1, 2);
        // by a day the first never: 1 3 then, 2 is left for him; or 2 3
        due("by a day: 1 3 or 2 3", 5, y.pairs(15, 10, -1));
        due("by a day: like ones, the lowest partner for the lowest", 1, y.pairs(15, 10, 0));
        says(37, "of like ones the lowest partner for the lowest of them, then for the next that is left, ..");
        int[] all = {1, 0, 3, 2, 5, 4, 7, 6};
        for (int i = 0; i < 8; i++) due("all alike", all[i], x.pairs(255, 7, i));
        int[] others = {2, -1, 0, 5, -1, 3, 8, -1, 6, -1};
        for (int i = 0; i < 10; i++) due("of 0 2 3 5 6 8", others[i], x.pairs(1 + 4 + 8 + 32 + 64 + 256, 7, i));
        NumberComes z = with(1, 0, 2, 0, 1, 0, 1, 0);
        // 0 1 and 2 3: 5 + 10; 0 2 and 1 3, 0 3 and 1 2 likewise
        due("all alike", 1, z.pairs(15, 10, 0));
        due("all alike", 15, z.pairs(15, 10, -1));
    }

    private static void pairsOthers() {
        says(37, "PAIRS: who NONE: TOGETHER in all, else his partner. NONE: he isn't of it, and for others.");
        NumberComes x = crowd(12, 1, 0);
        for (int set : new int[] {1, 7, 31, 127, 511, 1023, 2047, 4095, 4096, 4097, 0, -1}) {
            due("pairs of " + set, -1, x.pairs(set, 5, -1));
            due("pairs of " + set + ": one of them", -1, x.pairs(set, 5, 0));
        }
        due("the last two", 10, x.pairs(1024 + 2048, 5, 11));
        due("not of it", -1, x.pairs(3, 5, 2));
        due("not of it", -1, x.pairs(1024 + 2048, 5, 0));
        for (int who : new int[] {-2, 12, 13, 32, 33, MIN, MAX}) due("who " + who, -1, x.pairs(3, 5, who));
        for (int n : new int[] {0, -1, 100001, MIN, MAX}) {
            due("n " + n, -1, x.pairs(3, n, -1));
            due("n " + n, -1, x.pairs(3, n, 0));
            refused("pairs by " + n, -1, y -> y.pairs(3, n, -1));
        }
        refused("pairs of three", -1, y -> y.pairs(7, 5, -1));
        refused("pairs of one who isn't of it", -1, y -> y.pairs(3, 5, 2));
        asks("pairs", y -> y.pairs(15, 100, -1));
    }
}
