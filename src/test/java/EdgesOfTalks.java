/** Promises 19 to 22 and 30 to 32: talks, turns, and what was heard. */
final class EdgesOfTalks extends Edges {
    static void all() {
        talk();
        talkFull();
        judge();
        overheard();
        turn();
        turnHours();
        turnOthers();
        heard();
        fits();
        fitsOthers();
        who();
    }

    private static void talk() {
        says(19, "TALKS (30 at most): an HOUR, two PEOPLE.");
        NumberComes x = with(1, 0, 1, 0);
        due("the first hour", 0, x.talk(0, 0, 1));
        due("the last hour", 1, x.talk(LAST, 1, 0));
        due("the same again", 2, x.talk(LAST, 1, 0));
        due("so many", 3, x.about(5));
        due("the first and the last of twelve", 0, crowd(12, 1, 0).talk(5, 0, 11));
        says(19, "A TALK: its number. NONE for others, one and the same, or if there are 30.");
        refused("hour -1", -1, y -> y.talk(-1, 0, 1));
        refused("behind the last hour", -1, y -> y.talk(LAST + 1, 0, 1));
        refused("MIN", -1, y -> y.talk(Long.MIN_VALUE, 0, 1));
        refused("MAX", -1, y -> y.talk(Long.MAX_VALUE, 0, 1));
        for (int who : new int[] {0, 3}) refused("one and the same", -1, y -> y.talk(4, who, who));
        for (int who : new int[] {-1, 4, 11, 12, 32, MIN, MAX}) {
            refused("talk of " + who, -1, y -> y.talk(4, who, 0));
            refused("talk with " + who, -1, y -> y.talk(4, 0, who));
        }
        refusedOn(NumberComes::new, "talk of nobody", -1, y -> y.talk(4, 0, 1));
        NumberComes z = some();
        z.talk(4, 0, 0);
        due("a refused one takes no number", 2, z.talk(4, 0, 1));
    }

    private static void talkFull() {
        says(19, "one and the same, or if there are 30.");
        NumberComes x = with(2, 0, 3, 0);
        for (int i = 0; i < 30; i++) due("talk", i, x.talk(6 * i, 0, 1));
        due("the 31st", -1, x.talk(6, 0, 1));
        due("so many", 30, x.about(5));
        due("all are kept to", -1, x.judge());
        refusedOn(Edges::full, "the 31st", -1, y -> y.talk(4, 0, 1));
        refusedOn(Edges::full, "the 31st, one and the same", -1, y -> y.talk(4, 0, 0));
        x.image();
        due("an image leaves no room", -1, x.talk(6, 0, 1));
        NumberComes y = with(2, 0, 3, 0);
        for (int i = 0; i < 29; i++) y.talk(6 * i, 0, 1);
        due("the 30th, in an hour that isn't theirs", 29, y.talk(7, 0, 1));
        due("the 30th is judged", 29, y.judge());
        due("the 30th is overheard by none", 0, y.overheard(29));
    }

    private static void judge() {
        says(20, "JUDGED: the first TALK in whose HOUR one of both doesn't SPEAK; none.");
        NumberComes x = with(2, 0, 3, 0, 5, 0);
        x.talk(6, 0, 1);
        due("both speak", -1, x.judge());
        x.talk(12, 1, 0);
        x.talk(3, 0, 1);
        due("the first of both doesn't", 2, x.judge());
        x.talk(2, 0, 1);
        x.talk(7, 0, 1);
        due("the first such", 2, x.judge());
        NumberComes y = with(2, 0, 3, 0);
        y.talk(2, 0, 1);
        due("the second of both doesn't", 0, y.judge());
        NumberComes z = with(2, 0, 3, 0);
        z.talk(7, 0, 1);
        due("none of both does", 0, z.judge());
        // as all is now
        NumberComes w = with(1, 0, 1, 5);
        w.talk(15, 0, 1);
        w.talk(9, 0, 1);
        w.day(10);
        due("by a day: 5 and 9 of it", -1, w.judge());
        w.day(5);
        due("by a day his first is behind", 0, w.judge());
        w.day(0);
        ruled(w, "bars clock=9;");
        due("barred", 1, w.judge());
        w.clock(6);
        due("barred by another clock: 15 is 3, 9 is 3", -1, w.judge());
        ruled(w, "bars clock=3;");
        due("barred by another clock", 0, w.judge());
        due("the last hour", -1, lastTalk(1).judge());
        due("the last hour", 0, lastTalk(7).judge());
        says(20, "JUDGED. NONE: none.");
        due("without talks", -1, with(1, 0, 1, 0).judge());
        due("without people", -1, new NumberComes().judge());
        asks("judge", v -> v.judge());
    }

    /** A talk in the last hour, which leaves 6 by 7. */
    private static NumberComes lastTalk(int number) {
        NumberComes x = with(number, 0, 1, 0);
        x.talk(LAST, 0, 1);
        return x;
    }

    private static void overheard() {
        says(21, "OVERHEARD: by whom (bits): others who SPEAK in its HOUR and are NEAR one of both.");
        NumberComes x = crowd(12, 1, 0);
        x.talk(5, 0, 11);
        due("nobody is near", 0, x.overheard(0));
        x.near(0, 11, true);
        due("both themselves don't count", 0, x.overheard(0));
        x.near(0, 1, true);
        due("near the one", 2, x.overheard(0));
        x.near(11, 10, true);
        due("near the other", 2 + 1024, x.overheard(0));
        x.near(11, 1, true);
        due("near both", 2 + 1024, x.overheard(0));
        x.near(2, 3, true);
        x.near(2, 1, true);
        due("near others", 2 + 1024, x.overheard(0));
        x.change(1, 2, 0);
        due("he doesn't speak then", 1024, x.overheard(0));
        NumberComes z = crowd(12, 1, 0);
        z.talk(5, 4, 7);
        due("nobody is near these", 0, z.overheard(0));
        z.near(0, 7, true);
        z.near(11, 4, true);
        due("the first and the last", 2049, z.overheard(0));
        x.change(0, 2, 0);
        due("even if one of both doesn't", 1024, x.overheard(0));
        for (int i = 1; i < 11; i++) {
            x.change(i, 1, 0);
            x.near(i, 0, true);
        }
        due("all others", 2046, x.overheard(0));
        ruled(x, "bars who=5 and clock=5;");
        due("one is barred", 2046 - 32, x.overheard(0));
        says(21, "OVERHEARD. NONE for others.");
        for (int talk : new int[] {-1, 1, 29, 30, MIN, MAX}) due("overheard(" + talk + ")", -1, x.overheard(talk));
        for (int talk : new int[] {-1, 2, 30}) refused("overheard(" + talk + ") of two", -1, y -> y.overheard(talk));
        for (int talk : new int[] {-1, 30, 31}) refusedOn(Edges::full, "overheard(" + talk + ") of thirty", -1, y -> y.overheard(talk));
        due("without talks", -1, new NumberComes().overheard(0));
        asks("overheard", y -> y.overheard(0));
    }

    private static void turn() {
        says(22, "TURNS of a SET from an HOUR on: each SPEAKS in an HOUR of its own, no two in one;");
        NumberComes x = with(2, 0, 2, 0, 4, 0);
        // from 0: 0 2 4, of which the third has 0 or 4
        due("hours", 5, x.turn(7, 0, -1));
        due("the first", 0, x.turn(7, 0, 0));
        due("the second", 2, x.turn(7, 0, 1));
        due("the third", 4, x.turn(7, 0, 2));
        due("one alone, at once", 1, x.turn(1, 0, -1));
        due("one alone, an hour later", 2, x.turn(1, 1, -1));
        due("one alone: his hour", 2, x.turn(1, 1, 0));
        says(22, "TURNS of a SET: who NONE: how many HOURS; else his HOUR.");
        due("how many", 6, x.turn(7, 1, -1));
        due("his hour, not how far it is", 101, with(1, 0).turn(1, 101, 0));
        due("how many, not when", 1, with(1, 0).turn(1, 101, -1));
        says(22, "by it each, in the order of PEOPLE, has the lowest HOUR by which the others still can.");
        // the first may have 0 or 1, the second 0 alone
        NumberComes y = with(1, 0, 9, 0);
        due("hours", 2, y.turn(3, 0, -1));
        due("the first leaves 0 to the second", 1, y.turn(3, 0, 0));
        due("the second", 0, y.turn(3, 0, 1));
        NumberComes z = with(9, 0, 1, 0);
        due("the first has 0", 0, z.turn(3, 0, 0));
        due("the second", 1, z.turn(3, 0, 1));
        // within the fewest hours: the first could have 0 only if a fifth were taken
        NumberComes w = with(3, 0, 2, 0, 2, 0);
        due("of 0 .. 3: 3, 0, 2", 4, w.turn(7, 0, -1));
        due("the first", 3, w.turn(7, 0, 0));
        due("the second", 0, w.turn(7, 0, 1));
        due("the third", 2, w.turn(7, 0, 2));
        due("of 1 .. 4: 3, 2, 4", 4, w.turn(7, 1, -1));
        due("the second has the lower one", 2, w.turn(7, 1, 1));
        due("all twelve in every hour", 12, crowd(12, 1, 0).turn(4095, 0, -1));
        for (int i = 0; i < 12; i++) due("in their order", 7 + i, crowd(12, 1, 0).turn(4095, 7, i));
        NumberComes v = ruled(with(1, 0, 1, 0), "bars who=0 and clock<3;");
        v.day(10);
        due("barred to 2: 3 and 0", 4, v.turn(3, 0, -1));
        due("the second has 0", 0, v.turn(3, 0, 1));
    }

    private static void turnHours() {
        says(22, "of 64 HOURS (none): the fewest HOURS from there on in which that can be;");
        due("the 64th", 64, with(1, 63).turn(1, 0, -1));
        due("the 64th", 63, with(1, 63).turn(1, 0, 0));
        due("the 65th", -1, with(1, 64).turn(1, 0, -1));
        due("the 65th", -1, with(1, 64).turn(1, 0, 0));
        due("the 65th, one hour on", 64, with(1, 64).turn(1, 1, -1));
        due("both in the 63rd and 64th", 64, with(1, 62, 1, 62).turn(3, 0, -1));
        due("both in the 64th alone", -1, with(1, 63, 1, 63).turn(3, 0, -1));
        due("two in one hour alone", -1, with(99, 0, 99, 0).turn(3, 0, -1));
        due("twelve in the last twelve", 64, crowd(12, 1, 52).turn(4095, 0, -1));
        due("twelve in the last eleven", -1, crowd(12, 1, 53).turn(4095, 0, -1));
        due("the first hour is enough", 1, with(9999, 0).turn(1, 0, -1));
        NumberComes x = with(1, 9);
        x.day(10);
        due("by a day: once it begins again", 10, x.turn(1, 10, -1));
        x.change(0, 1, 10);
        due("by a day: never", -1, x.turn(1, 0, -1));
        due("always barred", -1, ruled(with(1, 0), "bars 1=1;").turn(1, 0, -1));
    }

    private static void turnOthers() {
        says(22, "NONE: none, he isn't of it, and for others (HOURS up to 10 to the 14).");
        NumberComes x = with(1, 0, 1, 0, 1, 0);
        due("not of it", -1, x.turn(3, 0, 2));
        for (int who : new int[] {-2, 3, 12, 32, 33, MIN, MAX}) due("who " + who, -1, x.turn(7, 0, who));
        due("the last start", 3, x.turn(7, START, -1));
        due("the last start", START + 2, x.turn(7, START, 2));
        for (int who = -1; who < 3; who++) {
            due("one more", -1, x.turn(7, START + 1, who));
            due("the last hour", -1, x.turn(7, LAST, who));
            due("hour -1", -1, x.turn(7, -1, who));
            due("MIN", -1, x.turn(7, Long.MIN_VALUE, who));
            due("MAX", -1, x.turn(7, Long.MAX_VALUE, who));
        }
        refused("turn of one who isn't of it", -1, y -> y.turn(3, 0, 2));
        refused("turn behind the last start", -1, y -> y.turn(3, START + 1, -1));
        asks("turn", y -> y.turn(7, 0, 0));
    }

    private static void heard() {
        says(30, "HEARD (20 at most): an HOUR (0 .. 999999) in which somebody spoke, or didn't.");
        NumberComes x = with(1, 0);
        due("the first hour", 1, x.heard(0, true));
        due("the last hour", 2, x.heard(999999, true));
        due("the same again", 3, x.heard(999999, true));
        due("who", 1, x.who());
        due("or not", 4, x.heard(0, false));
        due("who", 0, x.who());
        says(30, "An HOUR was HEARD (is), or not: how many there are. NONE for others, or if there are 20.");
        for (boolean is : new boolean[] {true, false}) {
            for (int hour : new int[] {-1, 1000000, MIN, MAX}) refused("heard(" + hour + ")", -1, y -> y.heard(hour, is));
            NumberComes y = new NumberComes();
            for (int i = 1; i <= 20; i++) due("heard", i, y.heard(i, is));
            due("the 21st", -1, y.heard(21, is));
            due("so many", 20, y.about(8));
            refusedOn(Edges::full, "the 21st", -1, z -> z.heard(5, is));
        }
        // the 20th counts like the others
        NumberComes z = with(1, 0, 1, 10);
        for (int i = 0; i < 19; i++) z.heard(20, true);
        due("who", 3, z.who());
        z.heard(9, true);
        due("who, by the 20th", 1, z.who());
        due("fits, by the 20th: that divide 11", 2, z.fits(60, -1));
        NumberComes w = with(1, 0, 1, 10);
        for (int i = 0; i < 19; i++) w.heard(20, true);
        w.heard(9, false);
        due("who, by the 20th that was not", 2, w.who());
    }

    private static void fits() {
        says(31, "FITS up to a NUMBER (1 .. 60): NUMBERS and FIRSTS below them that are DUE (without a DAY) in all that were HEARD and in none of the others:");
        NumberComes x = new NumberComes();
        due("up to 1", 1, x.fits(1, -1));
        due("up to 2", 3, x.fits(2, -1));
        due("up to 60", 1830, x.fits(60, -1));
        x.heard(59, true);
        // one FIRST for each NUMBER
        due("59 was heard", 60, x.fits(60, -1));
        due("60 from 59", 6059, x.fits(60, 59));
        due("59 from 0", 5900, x.fits(60, 58));
        x.heard(0, false);
        // not the divisors of 59: 1 and 59
        due("0 was not", 58, x.fits(60, -1));
        due("2 from 1", 201, x.fits(60, 0));
        NumberComes y = new NumberComes();
        y.heard(5, true);
        y.heard(5, false);
        due("heard and not", 0, y.fits(60, -1));
        due("none such", -1, y.fits(60, 0));
        // a first that is above an hour isn't due in it
        NumberComes z = new NumberComes();
        z.heard(3, true);
        z.heard(9, true);
        due("1, 2 from 1, 3 from 0, 6 from 3", 4, z.fits(60, -1));
        int[] want = {100, 201, 300, 603};
        for (int i = 0; i < 4; i++) due("the i-th", want[i], z.fits(60, i));
        due("up to 5", 3, z.fits(5, -1));
        due("up to 6", 4, z.fits(6, -1));
        z.day(5);
        due("without a day", 4, z.fits(60, -1));
        NumberComes w = new NumberComes();
        w.heard(999999, true);
        w.heard(999939, true);
        // divisors of 60: 1 2 3 4 5 6 10 12 15 20 30 60
        due("far ones", 12, w.fits(60, -1));
        due("60 from 39", 6039, w.fits(60, 11));
    }

    private static void fitsOthers() {
        says(31, "how many, the i-th by NUMBERS, then FIRSTS.");
        NumberComes w = new NumberComes();
        w.heard(7, false);
        // 1 from 0 is, 2 from 1 is, 3 from 1 is: the others by NUMBERS, then FIRSTS
        int[] order = {200, 300, 302, 400, 401, 402, 500, 501, 503, 504, 600};
        for (int i = 0; i < order.length; i++) due("in their order", order[i], w.fits(60, i));
        says(31, "how many (i NONE), the i-th: 100 NUMBER + FIRST. NONE if there is none such, and for others.");
        NumberComes x = new NumberComes();
        due("the first", 100, x.fits(60, 0));
        due("the second", 200, x.fits(60, 1));
        due("the third", 201, x.fits(60, 2));
        due("the fourth", 300, x.fits(60, 3));
        due("the last", 6059, x.fits(60, 1829));
        due("one more", -1, x.fits(60, 1830));
        due("the last up to 59", 5958, x.fits(59, 1769));
        due("one more", -1, x.fits(59, 1770));
        due("up to 1: the last", 100, x.fits(1, 0));
        due("up to 1: one more", -1, x.fits(1, 1));
        due("MAX", -1, x.fits(60, MAX));
        for (int i : new int[] {-2, -3, MIN}) due("i " + i, -1, x.fits(60, i));
        for (int most : new int[] {0, -1, 61, 62, MIN, MAX}) {
            due("most " + most, -1, x.fits(most, -1));
            due("most " + most, -1, x.fits(most, 0));
            refused("fits(" + most + ", -1)", -1, y -> y.fits(most, -1));
        }
        asks("fits", y -> y.fits(60, 3));
    }

    private static void who() {
        says(32, "WHO: those of the PEOPLE (bits) who SPEAK so.");
        due("of nobody", 0, new NumberComes().who());
        due("of twelve, nothing heard", 4095, crowd(12, 1, 0).who());
        NumberComes x = with(2, 0, 3, 0, 1, 7);
        x.heard(6, true);
        due("6", 3, x.who());
        x.heard(4, false);
        due("not 4", 2, x.who());
        x.heard(12, true);
        due("12", 2, x.who());
        x.day(10);
        // by a day 12 is 2
        due("by a day", 0, x.who());
        x.day(0);
        ruled(x, "bars who=0 and clock=4;");
        due("one who is barred in 4 isn't heard in it", 3, x.who());
        x.clock(2);
        due("by another clock", 2, x.who());
        NumberComes y = crowd(12, 1, 0);
        y.heard(0, false);
        due("nobody was heard", 0, y.who());
        y.change(11, 1, 1);
        due("the twelfth", 2048, y.who());
        NumberComes z = new NumberComes();
        z.heard(5, true);
        due("of nobody, one heard", 0, z.who());
        asks("who", w -> w.who());
    }
}
