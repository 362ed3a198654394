/** Promises 1 to 6, 12 and 41: people, day, clock, near, who speaks, and what is told about it all. */
final class EdgesOfPeople extends Edges {
    static void all() {
        newObject();
        person();
        personFull();
        change();
        day();
        dayBegins();
        clock();
        clockBegins();
        near();
        speaks();
        dueHours();
        barsClauses();
        about();
        calls();
    }

    private static void isNew(String what, NumberComes x) {
        int[] about = {0, 0, 24, 0, -1, 0, 0, 0, 0};
        for (int i = 0; i < about.length; i++) due(what + ": about(" + i + ")", about[i], x.about(i));
        for (int i = 100; i < 400; i += 100) due(what + ": about(" + i + ")", -2, x.about(i));
        due(what + ": judge()", -1, x.judge());
        due(what + ": overheard(0)", -1, x.overheard(0));
        due(what + ": who()", 0, x.who());
        due(what + ": cover()", -1, x.cover());
        due(what + ": worth(-1)", 0, x.worth(-1));
        due(what + ": worth(0)", NO_WORTH, x.worth(0));
        due(what + ": mend(0)", NO_WORTH, x.mend(0));
        due(what + ": fits(60, -1)", 1830, x.fits(60, -1));
        due(what + ": alone(-1, 0, 9)", 9, x.alone(-1, 0, 9));
        due(what + ": alone(12, 0, 9)", 0, x.alone(12, 0, 9));
        due(what + ": hush(0, 9, 0)", 9, x.hush(0, 9, 0));
        for (int set : new int[] {0, 1, 4095, -1}) due(what + ": next", -1, x.next(set, 0));
        no(what + ": speaks(0, 0)", x.speaks(0, 0));
    }

    private static void newObject() {
        says(1, "`NONE = -1`: None.");
        due("NONE", -1, NumberComes.NONE);
        says(1, "`FAR = -2`: Too far.");
        due("FAR", -2, NumberComes.FAR);
        says(1, "Nobody; THE IMAGE is this.");
        NumberComes x = new NumberComes();
        isNew("a new object", x);
        due("its tape", 0, x.about(9));
        due("back at once", 0, x.back());
        isNew("a new object, back at once", x);
        NumberComes y = full();
        due("back from all", 0, y.back());
        isNew("back from all", y);
        due("the tape isn't of an image", 300, y.about(9));
        due("nor is the latest fault", 0, y.fault(0));
        due("back again: THE IMAGE stays", 0, y.back());
        isNew("back again", y);
        says(1, "DAY: 0 (at first: none)");
        due("about(1)", 0, new NumberComes().about(1));
        yes("no day begins again", with(9999, 9999).speaks(0, 9999));
        says(1, "(1 .. 60; at first 24)");
        due("about(2)", 24, new NumberComes().about(2));
        no("clock 23 is there", ruled(with(1, 0), "bars clock=23;").speaks(0, 23));
        yes("clock 24 isn't", ruled(with(1, 0), "bars clock=24;").speaks(0, 24));
        says(1, "THE TEXT (told; at first none) rules.");
        NumberComes z = with(1, 0);
        read(z, "bars who=0;");
        due("about(4)", -1, z.about(4));
        yes("a text that was read doesn't rule yet", z.speaks(0, 0));
    }

    private static void person() {
        says(2, "PEOPLE 0 .. 11 (told one by one): a NUMBER (1 .. 9999) and a FIRST (0 .. 9999).");
        NumberComes x = new NumberComes();
        due("the least", 0, x.person(1, 0));
        due("the greatest", 1, x.person(9999, 9999));
        due("the least and the greatest", 2, x.person(1, 9999));
        due("the greatest and the least", 3, x.person(9999, 0));
        int[] want = {1, 9999, 1, 9999, 0, 9999, 9999, 0};
        for (int i = 0; i < 4; i++) {
            due("NUMBER", want[i], x.about(100 + i));
            due("FIRST", want[4 + i], x.about(200 + i));
        }
        says(2, "`int person(int number, int first)`: One of the PEOPLE: who. NONE for others");
        refused("person(0, 5)", -1, y -> y.person(0, 5));
        refused("person(-1, 5)", -1, y -> y.person(-1, 5));
        refused("person(10000, 5)", -1, y -> y.person(10000, 5));
        refused("person(5, -1)", -1, y -> y.person(5, -1));
        refused("person(5, 10000)", -1, y -> y.person(5, 10000));
        refused("person(MIN, 5)", -1, y -> y.person(MIN, 5));
        refused("person(MAX, 5)", -1, y -> y.person(MAX, 5));
        refused("person(5, MIN)", -1, y -> y.person(5, MIN));
        refused("person(5, MAX)", -1, y -> y.person(5, MAX));
        refused("person(1, 65536)", -1, y -> y.person(1, 65536));
        NumberComes z = some();
        z.person(0, 0);
        due("the next one is the next number", 4, z.person(5, 5));
    }

    private static void personFull() {
        says(2, "NONE for others, or if there are 12.");
        NumberComes x = new NumberComes();
        for (int i = 0; i < 12; i++) {
            due("person", i, x.person(1 + i, i));
            due("so many", i + 1, x.about(0));
        }
        due("the 13th", -1, x.person(1, 0));
        due("the 13th again", -1, x.person(9999, 9999));
        due("so many", 12, x.about(0));
        due("the 12th is as it was", 12, x.about(111));
        refusedOn(Edges::full, "the 13th", -1, y -> y.person(5, 5));
        refusedOn(Edges::full, "the 13th for others", -1, y -> y.person(0, 10000));
        due("back makes room", 0, x.back());
        due("person", 0, x.person(7, 7));
        // one who comes anew is near nobody, whoever had that number before
        NumberComes y = with(1, 0);
        y.image();
        y.person(2, 0);
        y.near(0, 1, true);
        y.back();
        due("back", 0, y.about(300));
        due("anew", 1, y.person(3, 0));
        due("near nobody", 0, y.about(301));
        ruled(y, "bars number=7;");
        due("one who comes while a text rules", 2, y.person(7, 0));
        no("he is barred", y.speaks(2, 0));
        due("nor he to others", 0, y.about(300));
    }

    private static void change() {
        says(3, "One has another NUMBER and FIRST: true.");
        NumberComes x = full();
        for (int who : new int[] {0, 11}) {
            yes("the least", x.change(who, 1, 0));
            due("NUMBER", 1, x.about(100 + who));
            due("FIRST", 0, x.about(200 + who));
            yes("the greatest", x.change(who, 9999, 9999));
            due("NUMBER", 9999, x.about(100 + who));
            due("FIRST", 9999, x.about(200 + who));
            yes("the same again", x.change(who, 9999, 9999));
        }
        due("others stay", 3, x.about(101));
        due("others stay", 12, x.about(110));
        due("nobody has come", 12, x.about(0));
        due("talks stay", 30, x.about(5));
        due("needs stay", 12, x.about(7));
        NumberComes y = with(1, 0, 1, 0);
        y.near(0, 1, true);
        y.change(0, 2, 2);
        due("near stays", 2, y.about(300));
        // what bars him is what he has now
        NumberComes w = ruled(with(3, 0), "bars number=2 or first=1;");
        yes("number 3", w.speaks(0, 6));
        w.change(0, 2, 0);
        no("number 2 is barred", w.speaks(0, 6));
        w.change(0, 1, 1);
        no("first 1 is barred", w.speaks(0, 6));
        w.change(0, 1, 0);
        yes("neither is barred", w.speaks(0, 6));
        says(3, "False, changing nothing, for others.");
        refused("change(-1, 5, 5)", 0, z -> z.change(-1, 5, 5) ? 1 : 0);
        refused("change(4, 5, 5) of four", 0, z -> z.change(4, 5, 5) ? 1 : 0);
        refused("change(11, 5, 5) of four", 0, z -> z.change(11, 5, 5) ? 1 : 0);
        refused("change(12, 5, 5)", 0, z -> z.change(12, 5, 5) ? 1 : 0);
        refused("change(MIN, 5, 5)", 0, z -> z.change(MIN, 5, 5) ? 1 : 0);
        refused("change(MAX, 5, 5)", 0, z -> z.change(MAX, 5, 5) ? 1 : 0);
        refused("change(0, 0, 5)", 0, z -> z.change(0, 0, 5) ? 1 : 0);
        refused("change(0, 10000, 5)", 0, z -> z.change(0, 10000, 5) ? 1 : 0);
        refused("change(0, 5, -1)", 0, z -> z.change(0, 5, -1) ? 1 : 0);
        refused("change(0, 5, 10000)", 0, z -> z.change(0, 5, 10000) ? 1 : 0);
        refused("change(3, -5, 5)", 0, z -> z.change(3, -5, 5) ? 1 : 0);
        refusedOn(NumberComes::new, "change(0, 5, 5) of nobody", 0, z -> z.change(0, 5, 5) ? 1 : 0);
        refusedOn(Edges::full, "change(12, 5, 5) of twelve", 0, z -> z.change(12, 5, 5) ? 1 : 0);
    }

    private static void day() {
        says(4, "DAY (0, 2 .. 999): true.");
        NumberComes x = with(1, 0);
        for (int d : new int[] {2, 3, 998, 999, 0, 0, 2}) {
            yes("day(" + d + ")", x.day(d));
            due("about(1)", d, x.about(1));
        }
        says(4, "`boolean day(int hours)`: DAY (0, 2 .. 999): true. False for others.");
        for (int d : new int[] {1, -1, 1000, -2, MIN, MAX, 65536 + 5}) refused("day(" + d + ")", 0, y -> y.day(d) ? 1 : 0);
        refusedOn(NumberComes::new, "day(1) of a new object", 0, y -> y.day(1) ? 1 : 0);
    }

    private static void dayBegins() {
        says(4, "or so many HOURS (2 .. 999).");
        NumberComes x = with(1, 0, 2, 1, 1, 1);
        x.day(2);
        for (int h = 0; h < 6; h++) {
            yes("number 1 by a day of 2", x.speaks(0, h));
            due("number 2 from 1 by a day of 2", h % 2, x.speaks(1, h) ? 1 : 0);
            due("number 1 from 1 by a day of 2", h % 2, x.speaks(2, h) ? 1 : 0);
        }
        NumberComes y = with(1, 998, 1, 999, 999, 0, 9999, 0);
        y.day(999);
        for (int h : new int[] {997, 998, 999, 1996, 1997, 1998}) {
            due("first 998 in hour " + h, h % 999 == 998 ? 1 : 0, y.speaks(0, h) ? 1 : 0);
            no("a first behind the day in hour " + h, y.speaks(1, h));
            due("number 999 in hour " + h, h % 999 == 0 ? 1 : 0, y.speaks(2, h) ? 1 : 0);
            due("number 9999 in hour " + h, h % 999 == 0 ? 1 : 0, y.speaks(3, h) ? 1 : 0);
        }
        // 1000 leaves 1 by 999, and so does 10 to the 15
        yes("first 998 in the last hour but 2", y.speaks(0, LAST - 2));
        yes("number 999 in the last hour but 1", y.speaks(2, LAST - 1));
        no("number 999 in the last hour", y.speaks(2, LAST));
        y.day(0);
        yes("without a day again", y.speaks(1, 999));
        no("without a day again", y.speaks(3, 999));
    }

    private static void clock() {
        says(5, "CLOCK: so many (1 .. 60; at first 24)");
        NumberComes x = with(1, 0);
        for (int c : new int[] {1, 2, 59, 60, 60, 24}) {
            yes("clock(" + c + ")", x.clock(c));
            due("about(2)", c, x.about(2));
        }
        says(5, "`boolean clock(int hours)`: CLOCK: true. False for others.");
        for (int c : new int[] {0, -1, 61, 62, MIN, MAX, 65536 + 5}) refused("clock(" + c + ")", 0, y -> y.clock(c) ? 1 : 0);
    }

    private static void clockBegins() {
        says(5, "the clock of an HOUR h is h mod CLOCK.");
        NumberComes x = ruled(with(1, 0), "bars clock#0;");
        x.clock(1);
        for (long h : new long[] {0, 1, 2, 59, 60, LAST}) yes("by a clock of 1 it is 0", x.speaks(0, h));
        x.clock(2);
        for (long h : new long[] {0, 1, 2, 3, LAST - 1, LAST}) due("by a clock of 2", 1 - h % 2, x.speaks(0, h) ? 1 : 0);
        ruled(x, "bars clock#59;");
        x.clock(60);
        for (int h : new int[] {0, 58, 59, 60, 118, 119, 120}) due("by a clock of 60: hour " + h, h % 60 == 59 ? 1 : 0, x.speaks(0, h) ? 1 : 0);
        // 10 to the 15 leaves 40 by 60, and 16 by 24
        yes("far: 59", x.speaks(0, LAST - 41));
        no("far: 58", x.speaks(0, LAST - 42));
        x.clock(59);
        no("by a clock of 59 there is no 59", x.speaks(0, 59));
        x.clock(24);
        no("by a clock of 24 there is no 59", x.speaks(0, 59));
        ruled(x, "bars clock#16;");
        yes("the last hour is 16 by 24", x.speaks(0, LAST));
        // the clock is the hour's, and not the day's
        x.day(10);
        yes("by a day the clock goes on", x.speaks(0, 16));
        no("by a day the clock goes on", x.speaks(0, 6));
    }

    private static void near() {
        says(6, "who hears whom (told for two, both ways alike; at first nobody anybody).");
        NumberComes x = full();
        for (int i = 0; i < 12; i++) due("at first near nobody", 0, x.about(300 + i));
        yes("the first and the last", x.near(0, 11, true));
        due("the first hears the last", 1 << 11, x.about(300));
        due("the last hears the first", 1, x.about(311));
        yes("the other way", x.near(11, 0, true));
        due("it is so already", 1 << 11, x.about(300));
        for (int i = 1; i < 11; i++) yes("near", x.near(i, 0, true));
        due("all but himself", 4094, x.about(300));
        due("others only him", 1, x.about(305));
        says(6, "Two are NEAR, or not: true.");
        yes("not, by the other way", x.near(0, 11, false));
        due("the first", 2046, x.about(300));
        due("the last", 0, x.about(311));
        yes("not, again", x.near(11, 0, false));
        due("the first", 2046, x.about(300));
        says(6, "False for others, and one and the same.");
        for (boolean is : new boolean[] {true, false}) {
            for (int who : new int[] {0, 3}) refused("near one and the same", 0, y -> y.near(who, who, is) ? 1 : 0);
            int[][] others = {{-1, 0}, {0, -1}, {4, 0}, {0, 4}, {12, 0}, {0, 12}, {32, 0}, {0, 32}, {MIN, 0}, {0, MAX}, {-1, -1}, {4, 5}};
            for (int[] o : others) refused("near(" + o[0] + ", " + o[1] + ")", 0, y -> y.near(o[0], o[1], is) ? 1 : 0);
        }
        refusedOn(NumberComes::new, "near(0, 1) of nobody", 0, y -> y.near(0, 1, true) ? 1 : 0);
        refusedOn(Edges::full, "near(11, 12) of twelve", 0, y -> y.near(11, 12, true) ? 1 : 0);
    }

    private static void speaks() {
        says(12, "HOURS 0 .. 10 to the 15.");
        NumberComes x = with(1, 0);
        yes("hour 0", x.speaks(0, 0));
        no("hour -1", x.speaks(0, -1));
        yes("hour 10 to the 15", x.speaks(0, LAST));
        no("one more", x.speaks(0, LAST + 1));
        no("MIN", x.speaks(0, Long.MIN_VALUE));
        no("MAX", x.speaks(0, Long.MAX_VALUE));
        no("2 to the 32 less than 0", x.speaks(0, -(1L << 32)));
        says(12, "One SPEAKS in an HOUR. False for others.");
        for (int who : new int[] {-1, 1, 11, 12, 32, MIN, MAX}) no("who " + who, x.speaks(who, 0));
        NumberComes y = crowd(12, 1, 0);
        yes("the 12th", y.speaks(11, 0));
        no("the 13th", y.speaks(12, 0));
        no("of nobody", new NumberComes().speaks(0, 0));
        asks("speaks", z -> z.speaks(0, 4) ? 1 : 0);
        refused("speaks(4, 0)", 0, z -> z.speaks(4, 0) ? 1 : 0);
    }

    private static void dueHours() {
        says(12, "t is FIRST or more, and t - FIRST is a multiple of NUMBER.");
        NumberComes x = with(7, 9999, 9999, 9999, 9999, 0, 1, 9999);
        long[] hours = {0, 1, 9992, 9998, 9999, 10000, 10005, 10006, 19997, 19998, 19999};
        int[] first = {0, 0, 0, 0, 1, 0, 0, 1, 0, 0, 0};
        int[] second = {0, 0, 0, 0, 1, 0, 0, 0, 0, 1, 0};
        int[] third = {1, 0, 0, 0, 1, 0, 0, 0, 0, 1, 0};
        int[] fourth = {0, 0, 0, 0, 1, 1, 1, 1, 1, 1, 1};
        for (int i = 0; i < hours.length; i++) {
            due("number 7 from 9999, hour " + hours[i], first[i], x.speaks(0, hours[i]) ? 1 : 0);
            due("number 9999 from 9999, hour " + hours[i], second[i], x.speaks(1, hours[i]) ? 1 : 0);
            due("number 9999 from 0, hour " + hours[i], third[i], x.speaks(2, hours[i]) ? 1 : 0);
            due("number 1 from 9999, hour " + hours[i], fourth[i], x.speaks(3, hours[i]) ? 1 : 0);
        }
        says(12, "t is h (by a DAY h mod DAY):");
        NumberComes y = with(3, 4);
        y.day(8);
        for (int h = 0; h < 24; h++) due("4 and 7 of 8, hour " + h, h % 8 == 4 || h % 8 == 7 ? 1 : 0, y.speaks(0, h) ? 1 : 0);
    }

    private static void barsClauses() {
        says(12, "One SPEAKS in an HOUR in which one is DUE, unless a bars clause is so then.");
        NumberComes x = ruled(with(2, 0, 3, 0), "bars clock=4;bars who=1 and clock>7;bars 1=0;");
        yes("due, no clause is so", x.speaks(0, 2));
        no("due, the first clause is so", x.speaks(0, 4));
        yes("due, the second isn't his", x.speaks(0, 8));
        no("due, the second is so", x.speaks(1, 9));
        yes("due, the second isn't so yet", x.speaks(1, 6));
        no("not due, no clause is so", x.speaks(0, 3));
        yes("a day of the clock later", x.speaks(1, 24));
        no("a day of the clock later", x.speaks(0, 28));
        x.by(-1);
        yes("no text rules", x.speaks(0, 4));
    }

    private static void about() {
        says(41, "0 PEOPLE, 1 DAY, 2 CLOCK, 3 TEXTS, 4 THE TEXT (NONE), 5 TALKS, 6 GIVEN, 7 NEEDS, 8 HEARD, 9 bytes of the tape,");
        int[] some = {4, 50, 20, 2, 1, 2, 2, 2, 2, 20};
        int[] full = {12, 0, 24, 4, 0, 30, 6, 12, 20, 300};
        int[] none = {0, 0, 24, 0, -1, 0, 0, 0, 0, 0};
        for (int i = 0; i < 10; i++) {
            due("of some: about(" + i + ")", some[i], some().about(i));
            due("of all: about(" + i + ")", full[i], full().about(i));
            due("of none: about(" + i + ")", none[i], new NumberComes().about(i));
        }
        says(41, "100 + who: NUMBER, 200 + who: FIRST, 300 + who: who are NEAR (bits).");
        NumberComes x = full();
        x.near(0, 11, true);
        for (int i = 0; i < 12; i++) {
            due("NUMBER", 2 + i, x.about(100 + i));
            due("FIRST", i, x.about(200 + i));
            due("NEAR", i == 0 ? 2048 : i == 11 ? 1 : 0, x.about(300 + i));
        }
        says(41, "300 + who: who are NEAR (bits). -2 for others.");
        for (int what : new int[] {-1, 10, 99, 112, 199, 212, 299, 312, 399, 400, 411, 500, -100, -101, 1100, MIN, MAX}) {
            refusedOn(Edges::full, "about(" + what + ")", -2, y -> y.about(what));
        }
        for (int what : new int[] {104, 111, 204, 211, 304, 311, -1, 10}) refused("about(" + what + ") of four", -2, y -> y.about(what));
        for (int what = 0; what < 12; what++) {
            int i = what;
            asks("about(" + i + ")", y -> y.about(i));
        }
    }

    private static void calls() {
        says(1, "An object is used for at most 512 calls after it has been made");
        NumberComes x = new NumberComes();
        for (int i = 0; i < 499; i++) x.about(0);
        for (int i = 0; i < 12; i++) due("person", i, x.person(1, 0));
        due("the 512th call", 0, x.next(4095, 0));
    }
}
