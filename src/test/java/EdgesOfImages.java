/** Promises 38 to 40: rolls, images, and back to them. */
final class EdgesOfImages extends Edges {
    static void all() {
        roll();
        rollUndone();
        rollFull();
        rollStays();
        rollOthers();
        image();
        back();
        backTexts();
        backTape();
    }

    private static NumberComes rolled(String s) {
        NumberComes x = new NumberComes();
        read(x, s);
        return x;
    }

    private static void roll() {
        says(38, "A ROLL: a TEXT's person NUMBER from NUMBER ; and near NUMBER , NUMBER ; clauses (NUMBERS: 1 .. 9999 and 0 .. 9999; of near 0 .. 11) are done to nobody at all");
        NumberComes x = rolled("person 1 from 0;person 9999 from 9999;near 0,1;");
        x.person(5, 5);
        x.person(6, 6);
        x.person(7, 7);
        x.near(0, 2, true);
        due("all is done", -1, x.roll(0));
        due("two", 2, x.about(0));
        int[] want = {1, 9999, 0, 9999, 2, 1};
        for (int i = 0; i < 6; i++) due("as it is told", want[i], x.about(100 + i / 2 * 100 + i % 2));
        yes("he speaks", x.speaks(1, 9999));
        due("a third is new", 2, x.person(8, 8));
        due("and near nobody", 0, x.about(302));
        due("the roll again", -1, x.roll(0));
        due("two again", 2, x.about(0));
        due("an empty one", -1, rolled("").roll(0));
        NumberComes y = rolled("bars 1=1;worth 2;");
        y.person(1, 0);
        due("one without people", -1, y.roll(0));
        due("nobody", 0, y.about(0));
        NumberComes z = rolled("person 1 from 0;".repeat(12) + "near 0,11;near 11,10;");
        due("all twelve", -1, z.roll(0));
        due("the twelfth is near two", 1 + 1024, z.about(311));
        says(38, "in their order;");
        due("near ahead of person", 0, rolled("near 0,1;person 1 from 0;person 1 from 0;").roll(0));
        due("near between them", 1, rolled("person 1 from 0;near 0,1;person 1 from 0;").roll(0));
        due("near behind them", -1, rolled("person 1 from 0;person 1 from 0;near 0,1;").roll(0));
    }

    private static void rollUndone() {
        says(38, "one that can't be done ends it: its number among all CLAUSES (from 0).");
        NumberComes x = rolled("bars 1=0;person 3 from 4;worth 1;near 0,0;person 5 from 6;");
        due("near one and the same", 3, x.roll(0));
        due("what is ahead of it is done", 1, x.about(0));
        due("what is ahead of it is done", 3, x.about(100));
        due("near himself he is not", 0, x.about(300));
        NumberComes y = rolled("person 3 from 4;person 3 from 5;near 0,1;near 1,2;near 0,1;person 5 from 6;");
        due("near one who isn't told", 3, y.roll(0));
        due("what was done stays", 2, y.about(300));
        due("what was done stays", 2, y.about(0));
        due("near one who isn't told, the other way", 1, rolled("person 3 from 4;near 11,0;").roll(0));
        due("the first clause", 0, rolled("near 0,0;").roll(0));
        due("the 24th clause", 23, rolled("person 1 from 0;" + "bars 1=1;".repeat(22) + "near 0,1;").roll(0));
        says(38, "A ROLL: NONE: all is done; else the number of the CLAUSE that can't be (what was done stays).");
        // those who were there before are gone, though it isn't done
        NumberComes z = rolled("near 0,1;");
        z.person(1, 0);
        z.person(1, 0);
        z.talk(4, 0, 1);
        z.need(0, 1, 1, 1);
        due("near 0,1 with nobody", 0, z.roll(0));
        due("nobody", 0, z.about(0));
        due("no talks", 0, z.about(5));
        due("no needs", 0, z.about(7));
    }

    private static void rollFull() {
        says(38, "(what was done stays).");
        NumberComes x = rolled("person 1 from 0;".repeat(13) + "near 0,1;");
        due("the 13th", 12, x.roll(0));
        due("twelve", 12, x.about(0));
        due("what is behind it isn't done", 0, x.about(300));
        NumberComes y = rolled("worth 1;" + "person 1 from 0;".repeat(12) + "near 0,1;person 2 from 0;near 2,3;");
        due("the 13th, with others between them", 14, y.roll(0));
        due("what was done stays", 2, y.about(300));
        due("what is behind it isn't done", 0, y.about(302));
        // twelve were there before: they are no hindrance
        NumberComes z = full();
        z.back();
        read(z, "person 1 from 0;".repeat(12));
        for (int i = 0; i < 12; i++) z.person(2, 2);
        due("twelve anew", -1, z.roll(0));
        due("twelve", 12, z.about(0));
        due("the twelfth", 1, z.about(111));
    }

    private static void rollStays() {
        says(38, "(DAY, CLOCK, GIVEN, HEARD stay; TALKS, NEEDS are gone)");
        NumberComes x = with(2, 0, 3, 0);
        read(x, "person 2 from 0;person 5 from 0;bars who=1 and clock=3;");
        x.day(9);
        x.clock(7);
        x.given(4);
        x.given(8);
        x.heard(2, true);
        x.heard(3, false);
        x.talk(1, 0, 1);
        x.need(0, 1, 1, 1);
        x.by(0);
        put(x, "near");
        x.roll(0);
        int[] about = {2, 9, 7, 1, 0, 0, 2, 0, 2, 4};
        for (int i = 0; i < 10; i++) due("about(" + i + ")", about[i], x.about(i));
        due("no talk is judged", -1, x.judge());
        due("no talk is overheard", -1, x.overheard(0));
        due("no need has a worth", NO_WORTH, x.worth(0));
        due("given", -1, x.given(4));
        due("given", -1, x.given(8));
        due("heard: by 2 and not 3", 1, x.who());
        due("a talk is the first", 0, x.talk(0, 0, 1));
        due("a need is the first", 0, x.need(0, 1, 1, 1));
        due("its worth", 1, x.worth(0));
        // the text that rules bars those who are rolled
        NumberComes z = rolled("bars number=7;person 7 from 0;person 6 from 0;");
        z.by(0);
        z.roll(0);
        no("7 is barred, though nobody was there before", z.speaks(0, 0));
        yes("6 isn't", z.speaks(1, 0));
        yes("5 is barred at 3 only", x.speaks(1, 5));
        no("5 of a day of 9, in 59, which is 3 by 7", x.speaks(1, 59));
    }

    private static void rollOthers() {
        says(38, "-2 for others.");
        for (int text : new int[] {-1, -2, 2, 3, 4, MIN, MAX}) refused("roll(" + text + ") of two", -2, x -> x.roll(text));
        for (int text : new int[] {-1, 4, 5}) refusedOn(Edges::full, "roll(" + text + ") of four", -2, x -> x.roll(text));
        for (int text : new int[] {-1, 0}) refusedOn(NumberComes::new, "roll(" + text + ") of none", -2, x -> x.roll(text));
        due("the fourth", -1, full().roll(3));
        due("the second: near 0,1 with nobody", 0, full().roll(1));
        NumberComes y = new NumberComes();
        read(y, "near 0,12;");
        due("one with a fault is none", -2, y.roll(0));
        read(y, "person 1 from 0;");
        y.back();
        due("behind back it is none", -2, y.roll(0));
    }

    private static void image() {
        says(39, "THE IMAGE is as all is now: how many PEOPLE there are.");
        due("of nobody", 0, new NumberComes().image());
        due("of four", 4, some().image());
        due("of twelve", 12, full().image());
        // back at once changes nothing, as much as there is
        NumberComes x = kept();
        x.back();
        unchanged("back at once", EdgesOfImages::kept, x);
        // another image takes its place
        NumberComes y = with(1, 0);
        due("one", 1, y.image());
        y.person(2, 0);
        due("two", 2, y.image());
        y.person(3, 0);
        due("back to two", 2, y.back());
        y.change(0, 9, 9);
        due("of two again", 2, y.image());
        y.change(0, 1, 0);
        y.back();
        due("the latest image", 9, y.about(100));
    }

    /** full(), whose image is itself. */
    private static NumberComes kept() {
        NumberComes x = full();
        x.image();
        return x;
    }

    private static void back() {
        says(40, "BACK to THE IMAGE (it stays): how many PEOPLE there are.");
        NumberComes x = some();
        // the image of some() is three people, without a day
        for (int i = 0; i < 3; i++) {
            due("back", 3, x.back());
            int[] about = {3, 0, 24, 1, 0, 1, 1, 1, 1, 20};
            for (int j = 0; j < 10; j++) due("about(" + j + ")", about[j], x.about(j));
            int[] people = {2, 3, 4, 0, 1, 2, 2, 1, 0};
            for (int j = 0; j < 9; j++) due("people", people[j], x.about(100 + j / 3 * 100 + j % 3));
            due("nobody is the fourth", -2, x.about(103));
            due("the talk: both speak in 4", -1, x.judge());
            due("the talk", 0, x.overheard(0));
            due("the given one", 3, x.give(1, 0));
            due("the need: 4 10 16, of which 2 are asked", 1, x.worth(0));
            due("heard: 4", 1 | 2, x.who());
            no("the text that rules: at 6", x.speaks(2, 6));
            yes("the text that rules: at 10", x.speaks(2, 10));
            x.person(1, 0);
            x.change(0, 1, 0);
            x.day(2);
            x.clock(9);
            x.near(0, 2, true);
            x.by(-1);
            x.talk(5, 0, 2);
            x.given(1);
            x.need(0, 2, 3, 4);
            x.heard(7, false);
            x.roll(0);
        }
        says(40, "BACK: all is so again.");
        // talks, needs and heard hours that were written over come again
        NumberComes y = with(2, 0, 3, 0, 1, 0);
        read(y, "person 1 from 0;person 1 from 0;person 1 from 0;");
        y.talk(6, 0, 1);
        y.talk(9, 0, 1);
        y.need(0, 1, 3, 7);
        y.image();
        y.roll(0);
        y.talk(1, 1, 2);
        y.talk(2, 1, 2);
        y.need(1, 2, 1, 3);
        due("behind the roll", -1, y.judge());
        due("behind the roll", 1, y.worth(0));
        due("back", 3, y.back());
        due("talks are so again", 1, y.judge());
        due("needs are so again: 0 6 are two", 0, y.worth(0));
        NumberComes z = with(1, 5, 1, 0);
        z.image();
        z.heard(4, true);
        z.back();
        z.heard(4, false);
        due("heard anew, and not", 1, z.who());
        z.back();
        z.given(7);
        z.back();
        due("given anew", 1, z.given(7));
    }

    private static void backTexts() {
        says(40, "AN IMAGE: all as it is, but the tape and the latest FAULT.");
        NumberComes x = with(1, 0);
        read(x, "bars clock=0;");
        x.by(0);
        x.image();
        for (int i = 1; i < 4; i++) due("text", i, read(x, "bars clock=" + i + ";"));
        x.by(3);
        due("a fifth", -1, read(x, ""));
        x.back();
        due("texts", 1, x.about(3));
        due("the text that rules", 0, x.about(4));
        no("it rules", x.speaks(0, 0));
        yes("the other doesn't", x.speaks(0, 3));
        due("a second one anew", 1, read(x, "bars clock=7;"));
        yes("by it", x.by(1));
        no("it is the new one", x.speaks(0, 7));
        yes("and not the old one", x.speaks(0, 1));
        no("there is no third", x.by(2));
        x.back();
        no("the image's text is as it was", x.speaks(0, 0));
        yes("the image's text is as it was", x.speaks(0, 7));
        // one with a fault read where another text of the image would come next
        due("a faulty one", -1, read(x, "bars clock=5;x"));
        due("texts", 1, x.about(3));
        no("the image's text is as it was", x.speaks(0, 0));
        yes("the faulty one doesn't rule", x.speaks(0, 5));
    }

    private static void backTape() {
        says(40, "but the tape and the latest FAULT.");
        NumberComes x = new NumberComes();
        put(x, "near 0,1;");
        x.image();
        put(x, "near 0,12;;");
        x.back();
        due("the tape is as it is now", 11, x.about(9));
        due("no text was read", -1, x.fault(0));
        due("it has a fault", -1, x.text());
        due("2", 2, x.fault(0));
        x.image();
        due("a good one", 0, x.text());
        due("0", 0, x.fault(0));
        x.back();
        due("the latest fault is as it is now", 0, x.fault(0));
        due("and its place", -1, x.fault(1));
        due("but the text is gone", 0, x.about(3));
        read(x, "near 11,12;");
        x.back();
        due("the latest fault is as it is now", 2, x.fault(0));
        due("and its place", 8, x.fault(1));
        due("the tape is as it is now", 0, x.about(9));
    }
}
