import java.nio.charset.StandardCharsets;
import java.util.Arrays;

/** Promise by promise, with answers reckoned by hand: ordinary inputs, the edges, and wrong inputs. */
public final class PromisesTest {
    private static final int NO_WORTH = -1000000;
    private static final long LAST = 1000000000000000L;
    private static final long START = 100000000000000L;
    private static final int MAX = Integer.MAX_VALUE;
    private static final int MIN = Integer.MIN_VALUE;
    private static int wrong = 0;
    private static int checks = 0;

    private static void due(String what, long want, long got) {
        checks++;
        if (want != got) {
            wrong++;
            System.out.println(what + ": answered " + got + ", due is " + want);
        }
    }

    private static void yes(String what, boolean got) { due(what, 1, got ? 1 : 0); }

    private static void no(String what, boolean got) { due(what, 0, got ? 1 : 0); }

    /** One object with people: number, first, number, first, .. */
    private static NumberComes with(int... people) {
        NumberComes x = new NumberComes();
        for (int i = 0; i < people.length; i += 2) x.person(people[i], people[i + 1]);
        return x;
    }

    private static int read(NumberComes x, String s) {
        x.end(0);
        byte[] b = Arrays.copyOf(s.getBytes(StandardCharsets.ISO_8859_1), (s.length() + 19) / 20 * 20);
        for (int i = 0; i < b.length; i += 20) {
            int[] v = new int[5];
            for (int j = 0; j < 20; j++) v[j / 4] = v[j / 4] << 8 | b[i + j] & 255;
            x.feed(v[0], v[1], v[2], v[3], v[4]);
        }
        x.end(s.length());
        return x.text();
    }

    private static NumberComes ruled(NumberComes x, String s) {
        x.by(read(x, s));
        return x;
    }

    private static void fault(String s, int what, int place) {
        NumberComes x = new NumberComes();
        due("text " + s, what == 0 ? 0 : -1, read(x, s));
        due("fault(0) of " + s, what, x.fault(0));
        due("fault(1) of " + s, place, x.fault(1));
        due("about(9) behind " + s, 0, x.about(9));
        due("about(3) behind " + s, what == 0 ? 1 : 0, x.about(3));
    }

    private static String times(int n, String s) { return s.repeat(n); }

    public static void main(String[] args) {
        newObject();
        people();
        dayAndClock();
        near();
        tape();
        texts();
        faults();
        sums();
        bars();
        by();
        speaks();
        next();
        nextFar();
        barred();
        together();
        alone();
        secret();
        pass();
        talks();
        turn();
        needs();
        worthByText();
        give();
        mend();
        cover();
        apart();
        heard();
        bits();
        other();
        hush();
        child();
        pairs();
        roll();
        image();
        about();
        System.out.println(checks + " checks, " + wrong + " wrong");
        if (wrong != 0) System.exit(1);
    }

    private static void newObject() {
        NumberComes x = new NumberComes();
        int[] about = {0, 0, 24, 0, -1, 0, 0, 0, 0, 0};
        for (int i = 0; i < about.length; i++) due("new: about(" + i + ")", about[i], x.about(i));
        x.person(3, 0);
        x.day(5);
        x.clock(7);
        due("new: back()", 0, x.back());
        for (int i = 0; i < about.length; i++) due("new, back: about(" + i + ")", about[i], x.about(i));
        due("NONE", -1, NumberComes.NONE);
        due("FAR", -2, NumberComes.FAR);
    }

    private static void people() {
        NumberComes x = new NumberComes();
        due("person(1, 0)", 0, x.person(1, 0));
        due("person(9999, 9999)", 1, x.person(9999, 9999));
        int[][] others = {{0, 0}, {10000, 0}, {-1, 0}, {1, -1}, {1, 10000}, {MIN, 0}, {1, MAX}};
        for (int[] o : others) {
            due("person for others", -1, x.person(o[0], o[1]));
            no("change for others", x.change(0, o[0], o[1]));
        }
        due("about(0)", 2, x.about(0));
        due("about(100)", 1, x.about(100));
        no("change of nobody", x.change(2, 5, 5));
        no("change of none", x.change(-1, 5, 5));
        yes("change", x.change(0, 9999, 9999));
        due("its number", 9999, x.about(100));
        due("its first", 9999, x.about(200));
        yes("change back", x.change(0, 1, 0));
        due("its number", 1, x.about(100));
        due("its first", 0, x.about(200));
        for (int i = 2; i < 12; i++) due("person", i, x.person(i, i));
        due("the 13th", -1, x.person(5, 5));
        due("about(0)", 12, x.about(0));
    }

    private static void dayAndClock() {
        NumberComes x = with(2, 0);
        for (int d : new int[] {2, 999, 0}) {
            yes("day", x.day(d));
            due("about(1)", d, x.about(1));
        }
        x.day(5);
        for (int d : new int[] {1, 1000, -1, MIN, MAX}) no("day for others", x.day(d));
        due("about(1)", 5, x.about(1));
        yes("by a day of 5", x.speaks(0, 5));
        no("by a day of 5", x.speaks(0, 6));
        yes("by a day of 5", x.speaks(0, 9));
        for (int c : new int[] {1, 60, 24}) {
            yes("clock", x.clock(c));
            due("about(2)", c, x.about(2));
        }
        for (int c : new int[] {0, 61, -1, MIN, MAX}) no("clock for others", x.clock(c));
        due("about(2)", 24, x.about(2));
    }

    private static void near() {
        NumberComes x = with(1, 0, 1, 0, 1, 0);
        yes("near", x.near(0, 2, true));
        due("about(300)", 4, x.about(300));
        due("about(301)", 0, x.about(301));
        due("about(302)", 1, x.about(302));
        yes("near", x.near(1, 0, true));
        due("about(300)", 6, x.about(300));
        yes("not near", x.near(2, 0, false));
        due("about(300)", 2, x.about(300));
        due("about(302)", 0, x.about(302));
        yes("not near again", x.near(2, 0, false));
        int[][] others = {{0, 0}, {0, 3}, {3, 0}, {-1, 0}, {0, -1}, {12, 1}, {MAX, MIN}};
        for (int[] o : others) {
            no("near for others", x.near(o[0], o[1], true));
            no("near for others", x.near(o[0], o[1], false));
        }
        due("about(300)", 2, x.about(300));
    }

    private static void tape() {
        NumberComes x = new NumberComes();
        due("end(0)", 0, x.end(0));
        due("end(1)", -1, x.end(1));
        for (int i = 1; i <= 15; i++) due("feed", 20 * i, x.feed(0, 0, 0, 0, 0));
        due("feed too much", -1, x.feed(0, 0, 0, 0, 0));
        due("about(9)", 300, x.about(9));
        due("end(301)", -1, x.end(301));
        due("end(-1)", -1, x.end(-1));
        due("end(281)", 281, x.end(281));
        due("feed too much", -1, x.feed(0, 0, 0, 0, 0));
        due("about(9)", 281, x.about(9));
        due("end(280)", 280, x.end(280));
        due("feed", 300, x.feed(0, 0, 0, 0, 0));
        due("end(0)", 0, x.end(0));
        // "near 0,1;" in its order, the highest byte first; the rest is cut off
        due("feed", 20, x.feed(0x6e656172, 0x20302c31, 0x3b800000, -1, -1));
        due("end(9)", 9, x.end(9));
        due("text", 0, x.text());
        due("feed behind", 20, x.feed(0x3b000000, 0, 0, 0, 0));
        due("end(1)", 1, x.end(1));
        due("feed behind", 21, x.feed(0, 0, 0, 0, 0));
        due("text", -1, x.text());
        due("place", 0, x.fault(1));
    }

    private static void texts() {
        NumberComes x = new NumberComes();
        due("fault ahead of any", -1, x.fault(0));
        due("place ahead of any", -1, x.fault(1));
        due("an empty text", 0, x.text());
        due("fault", 0, x.fault(0));
        due("place", -1, x.fault(1));
        due("a faulty one", -1, read(x, "bars"));
        due("fault", 1, x.fault(0));
        due("place", 4, x.fault(1));
        due("fault(2)", -1, x.fault(2));
        due("fault(-1)", -1, x.fault(-1));
        due("the tape", 0, x.about(9));
        due("second", 1, read(x, "worth 1;"));
        due("third", 2, read(x, "person 1 from 0;"));
        due("fourth", 3, read(x, "near 0,1;"));
        due("about(3)", 4, x.about(3));
        due("fault", 0, x.fault(0));
        due("fifth", -1, read(x, "bars"));
        due("the tape stays", 4, x.about(9));
        due("it was not read", 0, x.fault(0));
        due("about(3)", 4, x.about(3));
    }

    private static void faults() {
        fault("", 0, -1);
        fault(" \n ", 0, -1);
        fault("bars clock=1;", 0, -1);
        fault("bars clock<=1 or not who>=2 and number#3;", 0, -1);
        fault("worth got-asked*hours/2%3;", 0, -1);
        fault("near 11,0;", 0, -1);
        fault("person 9999 from 9999;person 00001 from 0;", 0, -1);
        // 1: can't stand there, or is none
        fault("x", 1, 0);
        fault(" ;", 1, 1);
        fault("Bars clock=1;", 1, 0);
        fault("barsclock=1;", 1, 0);
        for (String letter : new String[] {"a", "z", "A", "Z"}) fault("bars" + letter + " clock=1;", 1, 0);
        for (String sign : new String[] {"`", "{", "@", "["}) fault("bars" + sign + " clock=1;", 1, 4);
        for (String sign : new String[] {"/", ":"}) fault("bars 1" + sign + ";", 1, sign.equals("/") ? 7 : 6);
        fault("bars clock=1", 1, 12);
        fault("bars clock=1  ", 1, 14);
        fault("bars clock;", 1, 10);
        fault("bars clock==1;", 1, 11);
        fault("bars clock< =1;", 1, 12);
        fault("bars clock=1=1;", 1, 12);
        fault("bars clock<>1;", 1, 11);
        fault("bars (clock=1);", 1, 11);
        fault("bars (1;", 1, 7);
        fault("bars 1);", 1, 6);
        fault("bars 1 2;", 1, 7);
        fault("bars 1=1 worth;", 1, 9);
        fault("bars 1=1 or;", 1, 11);
        fault("bars 1=1 and or 1=1;", 1, 13);
        fault("bars +1=1;", 1, 5);
        fault("bars 1=not 1;", 1, 7);
        fault("bars foo=1;", 1, 5);
        fault("bars from=1;", 1, 5);
        fault("worth 1=1;", 1, 7);
        fault("worth not 1;", 1, 6);
        fault("worth $;", 1, 6);
        fault("worth 1\t;", 1, 7);
        fault("worth 1\r;", 1, 7);
        fault("worth " + (char) 233 + ";", 1, 6);
        fault("worth 1" + (char) 0 + ";", 1, 7);
        fault("worth ();", 1, 7);
        fault("person 1 from ;", 1, 14);
        fault("person from 1;", 1, 7);
        fault("person 1 form 1;", 1, 9);
        fault("person -1 from 1;", 1, 7);
        fault("person 1 10000 1;", 1, 9);
        fault("near 1 2;", 1, 7);
        fault("near 1,;", 1, 7);
        fault("near 1,2", 1, 8);
        fault("near who,2;", 1, 5);
        // 2: numbers
        fault("bars 9999=1;", 0, -1);
        fault("bars 10000=1;", 2, 5);
        fault("bars 1=99999999999999999999;", 2, 7);
        fault("bars 1=000000000000000000001;", 0, -1);
        fault("worth 1-10000;", 2, 8);
        fault("person 0 from 0;", 2, 7);
        fault("person 10000 from 0;", 2, 7);
        fault("person 1 from 10000;", 2, 14);
        fault("near 12,0;", 2, 5);
        fault("near 0,12;", 2, 7);
        fault("near 0,10000;", 2, 7);
        // 3: what is open
        fault("worth " + times(8, "(") + "1" + times(8, ")") + ";", 0, -1);
        fault("worth " + times(9, "(") + "1;", 3, 14);
        fault("worth " + times(8, "-") + "1;", 0, -1);
        fault("worth " + times(9, "-") + "1;", 3, 14);
        fault("worth 1" + times(9, "-") + "1;", 0, -1);
        fault("worth 1" + times(10, "-") + "1;", 3, 16);
        fault("bars " + times(8, "not ") + "1=1;", 0, -1);
        fault("bars " + times(9, "not ") + "1=1;", 3, 37);
        fault("bars not not -(-(-(-1=1;", 3, 19);
        fault("bars not not -(-(-(1=-(1;", 1, 20);
        fault("bars not not -(-(-((1;", 3, 19);
        fault("bars not 1=" + times(7, "(") + "1" + times(7, ")") + ";", 0, -1);
        fault("bars not 1=" + times(8, "(") + "1;", 3, 18);
        fault("bars not 1=1 and 1=" + times(8, "(") + "1" + times(8, ")") + ";", 0, -1);
        fault("bars " + times(5, "(1)+(-1)*--1-") + "(1)=1;", 0, -1);
        // 4: worth again
        fault("worth 1;worth 2;", 4, 8);
        fault("worth 1;bars 1=1; worth", 4, 18);
        // 5: names
        fault("worth clock;", 5, 6);
        fault("worth number;", 5, 6);
        fault("worth first;", 5, 6);
        fault("worth 1+who;", 5, 8);
        fault("bars got=1;", 5, 5);
        fault("bars 1=asked;", 5, 7);
        fault("bars 1=-hours;", 5, 8);
        fault("bars 1 got;", 1, 7);
        fault("bars 1=1 and got=1;", 5, 13);
        fault("bars 1=1 or 1=1 and not 1=got;", 5, 26);
        fault("bars 1=1 or 10000=1;", 2, 12);
        fault("bars 1=(got);", 5, 8);
        fault("worth 1+2*3-4/5%who;", 5, 16);
        fault("clock", 1, 0);
        // 6: clauses
        fault(times(24, "near 0,1;"), 0, -1);
        fault(times(24, "near 0,1;") + " near", 6, 217);
        fault(times(24, "near 0,1;") + "x", 1, 216);
        fault("worth 1;" + times(23, "near 0,1;") + "worth 1;", 4, 215);
        fault(times(23, "near 0,1;") + "worth 1;person", 6, 215);
    }

    /** What worth answers for a text, with GOT 5, ASKED 3, HOURS 9 (cut to 9999). */
    private static void sum(String s, int want) {
        NumberComes x = ruled(with(2, 0, 1, 0), "worth " + s + ";");
        x.need(0, 1, 3, 9);
        due("worth " + s, want, x.worth(0));
    }

    private static void sums() {
        sum("got", 5);
        sum("asked", 3);
        sum("hours", 9);
        sum("1+2*3", 7);
        sum("(1+2)*3", 9);
        sum("10-3-2", 5);
        sum("100/7/2", 7);
        sum("7-2*3+1", 2);
        sum("2*7%4", 2);
        sum("7%4*2", 6);
        sum("-7/2", -3);
        sum("7/-2", -3);
        sum("-7%3", -1);
        sum("7%-3", 1);
        sum("5/0", 0);
        sum("5%0", 0);
        sum("-2*3", -6);
        sum("--4", 4);
        sum("2--4", 6);
        sum("9999+1", 9999);
        sum("-9999-1", -9999);
        sum("9999*9999/1000", 1000);
        sum("-9999*9999/1000", -1000);
        sum("9999*9999-9999*100", 100);
        sum("9999*100+9999-9999*100", 100);
        sum("-9999*100-9999+9999*100", -100);
        sum("9999*9999*9999/9999", 100);
        sum("9999*9999*-9999/9999", -100);
        sum("got*asked-hours/2%3", 14);
    }

    /** Whether one of number 3, first 2 (the second) speaks at clock 5, by "bars s". */
    private static void bar(String s, boolean bars) {
        NumberComes x = ruled(with(1, 0, 3, 2), "bars " + s + ";");
        due("bars " + s, bars ? 0 : 1, x.speaks(1, 29) ? 1 : 0);
    }

    private static void bars() {
        bar("clock=5", true);
        bar("clock#5", false);
        bar("clock<5", false);
        bar("clock<6", true);
        bar("clock<=5", true);
        bar("clock<=4", false);
        bar("clock>4", true);
        bar("clock>5", false);
        bar("clock>=5", true);
        bar("clock>=6", false);
        bar("clock#4", true);
        bar("number=3", true);
        bar("first=2", true);
        bar("who=1", true);
        bar("who=0", false);
        bar("not clock=5", false);
        bar("not not clock=5", true);
        bar("not clock=4 and who=1", true);
        bar("not clock=5 or who=1", true);
        bar("who=1 or who=0 and who=2", true);
        bar("who=0 and who=2 or who=1", true);
        bar("who=0 or who=1 and who=2", false);
        bar("who=1 and who=1 and who=0", false);
        bar("who=0 or who=2 or who=1", true);
        for (String so : new String[] {"clock<6", "clock<=5", "clock>4", "clock>=5", "clock=5", "clock#4"}) {
            bar(so + " and who=1", true);
            bar("who=1 and " + so, true);
            bar(so + " and who=0", false);
            bar("not " + so, false);
            bar("not not " + so, true);
            bar(so + " or who=0", true);
        }
        bar("clock-number*first=-1", true);
        bar("1=0;bars who=1", true);
        bar("who=0;bars who=2", false);
        // what was read of faulty ones leaves nothing behind
        NumberComes again = with(1, 0);
        for (int i = 0; i < 5; i++) due("faulty", -1, read(again, "bars 1=1" + times(60, "+1+1") + "+got;"));
        ruled(again, "bars " + times(60, "1+1-") + "clock=0-1;");
        no("barred", again.speaks(0, 3));
        yes("not barred", again.speaks(0, 4));
        // the clock is the hour's, by a day too
        NumberComes x = ruled(with(1, 0), "bars clock=3;");
        x.clock(5);
        x.day(7);
        yes("hour 7", x.speaks(0, 7));
        no("hour 8", x.speaks(0, 8));
        yes("hour 10", x.speaks(0, 10));
        no("hour 13", x.speaks(0, 13));
    }

    private static void by() {
        NumberComes x = with(1, 0);
        no("no such text", x.by(0));
        yes("none", x.by(-1));
        read(x, "bars clock=0;");
        read(x, "bars clock=1;");
        yes("none rules yet", x.speaks(0, 0));
        yes("by(1)", x.by(1));
        no("barred", x.speaks(0, 1));
        yes("by(0)", x.by(0));
        yes("not barred", x.speaks(0, 1));
        no("barred", x.speaks(0, 24));
        no("by(2)", x.by(2));
        no("by(-2)", x.by(-2));
        no("by(MAX)", x.by(MAX));
        due("about(4)", 0, x.about(4));
        no("still barred", x.speaks(0, 0));
        yes("clock", x.clock(5));
        no("barred by the new clock", x.speaks(0, 5));
        yes("not barred by the new clock", x.speaks(0, 24));
        yes("none", x.by(-1));
        yes("not barred", x.speaks(0, 5));
        due("about(4)", -1, x.about(4));
        // those who come, or are changed, while a text rules
        ruled(x, "bars number=2;");
        x.person(2, 0);
        no("one who came", x.speaks(1, 0));
        x.change(1, 3, 0);
        yes("one who was changed", x.speaks(1, 0));
    }

    private static void speaks() {
        NumberComes x = with(5, 7);
        boolean[] want = {false, false, false, false, false, false, false, true, false, false, false, false, true};
        for (int i = 0; i < want.length; i++) due("speaks(0, " + i + ")", want[i] ? 1 : 0, x.speaks(0, i) ? 1 : 0);
        no("hour 2", x.speaks(0, 2));
        yes("the last hour but 3", x.speaks(0, LAST - 3));
        no("beyond", x.speaks(0, LAST + 2));
        no("below 0", x.speaks(0, -3));
        no("nobody", x.speaks(1, 7));
        no("nobody", x.speaks(-1, 7));
        x.change(0, 1, 0);
        yes("the first hour", x.speaks(0, 0));
        yes("the last hour", x.speaks(0, LAST));
        no("beyond", x.speaks(0, LAST + 1));
        x.day(10);
        x.change(0, 3, 4);
        for (int i = 0; i < 30; i++) due("by a day", i % 10 == 4 || i % 10 == 7 ? 1 : 0, x.speaks(0, i) ? 1 : 0);
        x.change(0, 3, 10);
        for (int i = 0; i < 30; i++) no("never by a day", x.speaks(0, i));
    }

    private static void next() {
        NumberComes x = with(4, 1, 6, 3, 9, 0);
        due("next(1, 0)", 1, x.next(1, 0));
        due("next(1, 2)", 5, x.next(1, 2));
        due("next(3, 0)", 9, x.next(3, 0));
        due("next(3, 10)", 21, x.next(3, 10));
        due("next(7, 0)", 9, x.next(7, 0));
        due("next(7, 10)", 45, x.next(7, 10));
        due("next(8, 0)", -1, x.next(8, 0));
        due("next(0, 0)", -1, x.next(0, 0));
        due("next(-1, 0)", -1, x.next(-1, 0));
        due("next(1, -1)", -1, x.next(1, -1));
        due("next(1, LAST + 1)", -1, x.next(1, LAST + 1));
        due("next(1, MAX)", -1, x.next(1, Long.MAX_VALUE));
        x.change(1, 6, 4);
        due("never", -1, x.next(3, 0));
        // a first that is far
        NumberComes y = with(2, 0, 3, 9000);
        due("from the first on", 9000, y.next(3, 0));
        due("from the first on", 9006, y.next(3, 9001));
        // by a day: a first behind it is never
        y.day(12);
        due("never by a day", -1, y.next(3, 0));
        y.change(1, 3, 3);
        due("by a day", 6, y.next(3, 0));
        due("by a day", 18, y.next(3, 7));
        y.day(7);
        due("by a day of 7", 6, y.next(3, 0));
        due("by a day of 7", 13, y.next(3, 7));
        // clocks
        ruled(y, "bars clock=13 or clock=6;");
        due("barred by clocks", 20, y.next(3, 0));
        y.clock(7);
        due("always barred by a clock", -1, y.next(3, 0));
        y.day(0);
        due("without a day", 12, y.next(3, 4));
        y.clock(6);
        ruled(y, "bars clock=0;");
        due("always barred by a clock", -1, y.next(3, 0));
        NumberComes once = ruled(with(4, 1), "bars clock#3;");
        once.clock(4);
        due("never at 3", -1, once.next(1, 0));
        once.change(0, 4, 3);
        due("always at 3", 3, once.next(1, 0));
        once.day(7);
        once.change(0, 1, 0);
        due("by a day: 3", 3, once.next(1, 1));
        due("by a day: 7", 7, once.next(1, 4));
        once.by(-1);
        for (int i = 0; i < 20; i++) due("every hour", i, once.next(1, i));
        y.clock(12);
        due("barred by a clock now and then", 6, y.next(3, 0));
        due("barred by a clock now and then", 18, y.next(3, 7));
    }

    private static void nextFar() {
        NumberComes x = with(7, 3);
        due("the last hour", 999999999999997L, x.next(1, LAST - 9));
        due("far", -2, x.next(1, LAST - 2));
        x.day(5);
        due("by a day", LAST - 2, x.next(1, LAST - 6));
        due("by a day far", -2, x.next(1, LAST - 1));
        // 9973 * 9967 * 9949 * 9941 is above 10 to the 15
        NumberComes y = with(9973, 0, 9967, 0, 9949, 0, 9941, 0);
        due("in hour 0", 0, y.next(15, 0));
        due("then far", -2, y.next(15, 1));
        due("three of them", 9973L * 9967 * 9949, y.next(7, 1));
        y.change(3, 9941, 1);
        due("with another first, below 10 to the 15", 571607010515102L, y.next(15, 0));
        due("far behind it", -2, y.next(15, 571607010515103L));
        // twice that hour is the one by 2: above 10 to the 15, and below the step
        y.change(3, 9941, 2);
        due("far from the first on", -2, y.next(15, 0));
        y.change(0, 9973, 4);
        y.change(1, 9967, 4);
        y.change(2, 9949, 4);
        y.change(3, 9941, 4);
        due("hour 4, however great the step", 4, y.next(15, 0));
        due("far", -2, y.next(15, 5));
        y.person(9931, 4);
        due("hour 4 of five", 4, y.next(31, 0));
        y.person(9929, 5);
        due("six, far", -2, y.next(63, 0));
        y.change(5, 9929, 3);
        due("six, hour 4 isn't one's", -2, y.next(63, 0));
        y.change(5, 9929, 4);
        due("six, hour 4", 4, y.next(63, 0));
        // the last hour, and those around it
        for (int i = -3; i <= 1; i++) {
            NumberComes w = new NumberComes();
            for (int n : new int[] {9973, 9967, 9949, 9941}) w.person(n, (int) ((LAST + i) % n));
            due("around the last hour", i <= 0 ? LAST + i : -2, w.next(15, 0));
            due("around the last hour", i <= 0 ? 1 : 0, w.together(15, 1, LAST));
            due("two of them", LAST + i > LAST ? -2 : LAST + i, w.next(3, LAST + i - 2));
        }
        NumberComes ten = with(10, 0);
        ten.day(10);
        due("the last hour by a day", LAST, ten.next(1, LAST - 3));
        ten.change(0, 10, 1);
        due("the one behind it", -2, ten.next(1, LAST - 3));
        // far in one's own reckoning, but two bar it
        NumberComes z = with(9973, 1, 9967, 2, 9949, 3, 9941, 4, 9998, 0, 9996, 1);
        due("two of them bar it", -1, z.next(63, 0));
        z.change(5, 9996, 2);
        due("none bar it", -2, z.next(63, 0));
        // far, but no clock is open
        ruled(z, "bars clock%2=0;");
        due("even numbers and odd clocks", -1, z.next(63, 0));
        due("an odd clock", 367340647967225L, z.next(15, 0));
        due("far behind it", -2, z.next(15, 367340647967226L));
        z.clock(1);
        due("clock 0 alone", -1, z.next(1, 0));
        // one candidate that a clock bars, the next one is far
        NumberComes v = ruled(with(9973, 0, 9967, 0, 9949, 0, 9941, 0), "bars clock=0;");
        due("hour 0 is barred", -2, v.next(15, 0));
        due("three, hour 0 is barred", 9973L * 9967 * 9949, v.next(7, 0));
        // all twelve
        NumberComes u = with(9973, 0, 9967, 0, 9949, 0, 9941, 0, 9931, 0, 9929, 0, 9923, 0, 9907, 0, 9901, 0, 9887, 0, 9883, 0, 9871, 0);
        due("all twelve", 0, u.next(4095, 0));
        due("all twelve far", -2, u.next(4095, 1));
        u.change(11, 9973, 1);
        due("never", -1, u.next(4095, 1));
    }

    private static void barred() {
        NumberComes x = with(4, 0, 3, 0, 6, 1, 4, 2, 2, 1);
        due("none of them", -1, x.barred(3, 0));
        due("first", 0, x.barred(31, 0));
        due("then", 2, x.barred(31, 1));
        due("first", 1, x.barred(6, 0));
        due("then", 2, x.barred(6, 1));
        due("first", 2, x.barred(4 + 8 + 16, 0));
        due("then", 3, x.barred(4 + 8 + 16, 1));
        due("first", 3, x.barred(8 + 16, 0));
        due("then", 4, x.barred(8 + 16, 1));
        due("one alone", -1, x.barred(4, 0));
        due("what 2", -1, x.barred(31, 2));
        due("what -1", -1, x.barred(31, -1));
        due("others", -1, x.barred(32, 0));
        due("none", -1, x.barred(0, 0));
        ruled(x, "bars who<9;");
        due("bars don't count", -1, x.barred(3, 0));
        due("bars don't count", 2, x.barred(31, 1));
        x.day(24);
        due("by a day", -1, x.barred(31, 0));
    }

    private static void together() {
        NumberComes x = with(4, 1, 6, 3);
        // 9, 21, 33, ..
        due("none", 0, x.together(3, 0, 9));
        due("one", 1, x.together(3, 0, 10));
        due("one", 1, x.together(3, 9, 1));
        due("one", 1, x.together(3, 9, 12));
        due("two", 2, x.together(3, 9, 13));
        due("none", 0, x.together(3, 10, 11));
        due("all", (LAST - 9) / 12 + 1, x.together(3, 1, LAST));
        due("the last hours", 1, x.together(3, LAST - 7, 8));
        due("the last hours", 0, x.together(3, LAST - 6, 7));
        due("too far", -1, x.together(3, LAST - 7, 9));
        due("too far", -1, x.together(3, 2, LAST));
        due("n 0", -1, x.together(3, 0, 0));
        due("n -1", -1, x.together(3, 0, -1));
        due("n beyond", -1, x.together(3, 0, LAST + 1));
        due("n MAX", -1, x.together(3, LAST, Long.MAX_VALUE));
        due("hour -1", -1, x.together(3, -1, 5));
        due("hour beyond", -1, x.together(3, LAST + 1, 1));
        due("set 0", -1, x.together(0, 0, 5));
        due("set 4", -1, x.together(4, 0, 5));
        x.change(1, 6, 9003);
        due("from the first on", 1, x.together(3, 0, 9010));
        due("from the first on", 0, x.together(3, 0, 9009));
        x.change(1, 6, 2);
        due("never", 0, x.together(3, 0, LAST));
        // by a day of 10: at 4 and 8
        NumberComes y = with(4, 0, 2, 4);
        y.day(10);
        due("by a day", 2, y.together(3, 0, 10));
        due("by a day", 3, y.together(3, 0, 15));
        due("by a day", 2, y.together(3, 5, 10));
        due("by a day", LAST / 5, y.together(3, 0, LAST));
        // by clocks of 4: 4, 8, 14, 18 come to 0, 0, 2, 2
        ruled(y, "bars clock=0;");
        y.clock(4);
        due("by a day and a clock", 2, y.together(3, 0, 20));
        due("by a day and a clock", LAST / 10, y.together(3, 0, LAST));
        y.day(0);
        due("by a clock: 4, 8, ..", 0, y.together(3, 0, LAST));
        y.clock(12);
        due("by a clock: 4, 8, not 12", 4, y.together(3, 0, 24));
        due("by a clock: 4, 8, not 12", 5, y.together(3, 0, 29));
        due("however far", (LAST - 4) / 12 * 2, y.together(3, 0, LAST));
    }

    private static void alone() {
        NumberComes x = with(2, 0, 3, 0, 4, 9);
        // hours 0 .. 11: 0 both, 2 4 8 10 the first, 3 the second, 6 both, 9 the second and the third, 1 5 7 11 nobody
        due("nobody", 4, x.alone(-1, 0, 12));
        due("just one", 5, x.alone(12, 0, 12));
        due("just the first", 4, x.alone(0, 0, 12));
        due("just the second", 1, x.alone(1, 0, 12));
        due("just the third", 0, x.alone(2, 0, 12));
        due("just the third: 13", 1, x.alone(2, 0, 14));
        due("one hour", 1, x.alone(1, 3, 1));
        due("the longest", 100000 / 6 * 2 + 1, with(2, 0, 3, 0).alone(-1, 0, 100000));
        due("nobody there", 7, new NumberComes().alone(-1, 5, 7));
        due("nobody there", 0, new NumberComes().alone(12, 5, 7));
        int[] others = {-2, 3, 13, 11, MAX, MIN};
        for (int o : others) due("alone for others", -1, x.alone(o, 0, 5));
        due("n 0", -1, x.alone(0, 0, 0));
        due("n -1", -1, x.alone(0, 0, -1));
        due("n 100001", -1, x.alone(0, 0, 100001));
        due("hour -1", -1, x.alone(0, -1, 5));
        due("too far", -1, x.alone(0, LAST, 2));
        due("the last", 1, with(2, 0).alone(0, LAST, 1));
        x.day(5);
        // by a day of 5: 0 both, 2 4 the first, 3 the second, 1 nobody
        due("by a day: nobody", 20, x.alone(-1, 0, 100));
        due("by a day: the first", 40, x.alone(0, 0, 100));
        due("by a day: across", 1, x.alone(-1, 4, 4));
        ruled(x, "bars who=1;");
        due("barred: nobody", 40, x.alone(-1, 0, 100));
    }

    private static void secret() {
        NumberComes x = with(2, 0, 3, 0, 4, 0, 5, 0);
        due("nobody is near", 0, x.secret(0, 1, 0, 0));
        due("nobody is near", 6, x.secret(0, 1, 1, 0));
        due("of 60", 10, x.secret(0, 1, 0, 60));
        x.near(0, 1, true);
        due("these two are near one another", 10, x.secret(0, 1, 0, 60));
        x.near(2, 1, true);
        // 6, 18, 30, 42, 54 are not multiples of 4
        due("one is near", 5, x.secret(0, 1, 0, 60));
        due("the next", 18, x.secret(1, 0, 7, 0));
        x.near(3, 0, true);
        due("two are near: without 30", 4, x.secret(0, 1, 0, 60));
        x.near(2, 3, true);
        due("the others near one another", 4, x.secret(0, 1, 0, 60));
        x.change(2, 1, 0);
        due("never", 0, x.secret(0, 1, 0, 100000));
        due("none", -1, x.secret(0, 1, 0, 0));
        NumberComes y = with(1, 9000, 9999, 9999);
        due("the next one", 9999, y.secret(0, 1, 0, 0));
        due("the next but one", 19998, y.secret(0, 1, 10000, 0));
        NumberComes z = with(9901, 0, 9907, 0);
        due("none of 100000", -1, z.secret(0, 1, 1, 0));
        due("the last of 100000", 9901L * 9907, z.secret(0, 1, 9901L * 9907 - 99999, 0));
        due("the first behind them", -1, z.secret(0, 1, 9901L * 9907 - 100000, 0));
        due("others", -1, x.secret(0, 0, 0, 5));
        due("others", -1, x.secret(0, 4, 0, 5));
        due("others", -1, x.secret(-1, 0, 0, 0));
        due("n -1", -1, x.secret(0, 1, 0, -1));
        due("n 100001", -1, x.secret(0, 1, 0, 100001));
        due("hour -1", -1, x.secret(0, 1, -1, 0));
        due("the last hour", 1, with(1, 0, 1, 0).secret(0, 1, LAST, 1));
        due("too far", -1, with(1, 0, 1, 0).secret(0, 1, LAST, 2));
        due("the last 100000", LAST - 99999, with(1, 0, 1, 0).secret(0, 1, LAST - 99999, 0));
        due("they are too far", -1, with(1, 0, 1, 0).secret(0, 1, LAST - 99998, 0));
    }

    private static void pass() {
        NumberComes x = with(4, 0, 6, 2, 9, 5, 3, 0);
        // 8: 0 and 1; 14: 1, 2?  (5, 14, 23: 2); 14 is 1's (2, 8, 14), so 2 hears it from 1
        due("straight", 8, x.pass(0, 1, 1, 0));
        due("by whom", 0, x.pass(0, 1, 1, 1));
        due("passed on", 14, x.pass(0, 1, 2, 0));
        due("by whom", 1, x.pass(0, 1, 2, 1));
        due("in the hour itself", 8, x.pass(0, 8, 1, 0));
        due("behind it", 20, x.pass(0, 9, 1, 0));
        due("one and the same", 77, x.pass(2, 77, 2, 0));
        due("one and the same: by nobody", -1, x.pass(2, 77, 2, 1));
        // 0 tells 3 in 0 and 12, 3 and 0 both know it in 24; the lowest who knows is told
        NumberComes y = with(2, 0, 2, 0, 5, 0, 6, 4);
        due("two who know", 4, y.pass(1, 2, 3, 0));
        due("the lowest of them", 0, y.pass(1, 2, 3, 1));
        due("the lowest of them, who knew it ahead", 1, y.pass(1, 4, 3, 1));
        NumberComes z = with(2, 0, 2, 1);
        due("never", -1, z.pass(0, 0, 1, 0));
        due("by nobody", -1, z.pass(0, 0, 1, 1));
        NumberComes v = with(9901, 0, 9907, 0);
        due("the last of 100000", 9901L * 9907, v.pass(0, 9901L * 9907 - 99999, 1, 0));
        due("behind them", -1, v.pass(0, 9901L * 9907 - 100000, 1, 0));
        due("what 2", -1, x.pass(0, 0, 1, 2));
        due("what -1", -1, x.pass(0, 0, 0, -1));
        due("nobody", -1, x.pass(4, 0, 1, 0));
        due("nobody", -1, x.pass(0, 0, 4, 0));
        due("nobody", -1, x.pass(4, 0, 4, 0));
        due("hour -1", -1, x.pass(0, -1, 0, 0));
        due("the last start", START, x.pass(0, START, 0, 0));
        due("too far", -1, x.pass(0, START + 1, 0, 0));
        due("the last start", START + 2, with(1, 0, 3, 0).pass(0, START, 1, 0));
    }

    private static void talks() {
        NumberComes x = with(2, 0, 3, 0, 1, 0, 6, 0);
        due("judged: none", -1, x.judge());
        due("talk", 0, x.talk(6, 0, 1));
        due("talk", 1, x.talk(12, 1, 0));
        due("judged: none", -1, x.judge());
        due("talk", 2, x.talk(8, 0, 1));
        due("talk", 3, x.talk(9, 0, 1));
        due("judged", 2, x.judge());
        x.change(0, 5, 1);
        due("judged by what is now", 1, x.judge());
        x.change(0, 2, 1);
        due("judged by what is now", 0, x.judge());
        x.change(0, 2, 0);
        due("overheard by none", 0, x.overheard(0));
        x.near(0, 2, true);
        x.near(1, 3, true);
        x.near(0, 1, true);
        due("overheard by two", 12, x.overheard(0));
        due("overheard by one who speaks", 4, x.overheard(2));
        due("overheard(4)", -1, x.overheard(4));
        due("overheard(-1)", -1, x.overheard(-1));
        due("one and the same", -1, x.talk(6, 1, 1));
        due("nobody", -1, x.talk(6, 1, 4));
        due("hour -1", -1, x.talk(-1, 1, 0));
        due("too far", -1, x.talk(LAST + 1, 1, 0));
        due("about(5)", 4, x.about(5));
        due("the last hour", 4, x.talk(LAST, 1, 0));
        for (int i = 5; i < 30; i++) due("talk", i, x.talk(0, 0, 1));
        due("the 31st", -1, x.talk(0, 0, 1));
        due("about(5)", 30, x.about(5));
        due("the last one", 12, x.overheard(29));
    }

    private static void turn() {
        NumberComes x = with(2, 0, 2, 0, 4, 0);
        // 0, 2, 4 (hours 0 .. 4): the third has 0 or 4
        due("hours", 5, x.turn(7, 0, -1));
        due("the first", 0, x.turn(7, 0, 0));
        due("the second", 2, x.turn(7, 0, 1));
        due("the third", 4, x.turn(7, 0, 2));
        due("from 1: 2, 4, 6", 6, x.turn(7, 1, -1));
        due("the first", 2, x.turn(7, 1, 0));
        due("the second", 6, x.turn(7, 1, 1));
        due("the third", 4, x.turn(7, 1, 2));
        due("one", 2, x.turn(4, 3, -1));
        due("not of it", -1, x.turn(3, 0, 2));
        due("nobody", -1, x.turn(7, 0, 3));
        due("who -2", -1, x.turn(7, 0, -2));
        due("set 0", -1, x.turn(0, 0, -1));
        due("set 8", -1, x.turn(8, 0, -1));
        due("hour -1", -1, x.turn(7, -1, -1));
        due("the last start", 5, x.turn(7, START, -1));
        due("the last start", START + 2, x.turn(7, START, 1));
        due("too far", -1, x.turn(7, START + 1, -1));
        // the 64th hour is 63
        NumberComes y = with(1, 63, 1, 0);
        due("the 64th", 64, y.turn(1, 0, -1));
        due("the 64th", 63, y.turn(3, 0, 0));
        y.change(0, 1, 64);
        due("behind it", -1, y.turn(1, 0, -1));
        due("of all", -1, y.turn(3, 0, 1));
        due("the first hour alone", 1, with(99, 0).turn(1, 0, -1));
        due("the first hour alone", 0, with(99, 0, 1, 0).turn(3, 0, 0));
        due("the first hour alone", 1, with(99, 0, 1, 0).turn(3, 0, 1));
        // two who speak in one hour alone
        due("none", -1, with(99, 5, 99, 5).turn(3, 0, -1));
        NumberComes z = with(1, 0, 1, 0, 1, 0, 1, 0, 1, 0, 1, 0, 1, 0, 1, 0, 1, 0, 1, 0, 1, 0, 12, 0);
        due("all twelve", 12, z.turn(4095, 1, -1));
        due("all twelve: the last one", 12, z.turn(4095, 1, 11));
        due("all twelve: the first", 1, z.turn(4095, 1, 0));
        due("all twelve: the eleventh", 11, z.turn(4095, 1, 10));
        z.change(0, 12, 0);
        due("two at 12 and 24", 24, z.turn(4095, 1, -1));
    }

    private static void needs() {
        NumberComes x = with(2, 0, 3, 0, 5, 0);
        due("given", 1, x.given(1));
        due("given", 2, x.given(9999));
        for (int g : new int[] {0, -1, 10000, 1, 9999, MAX}) due("given for others", -1, x.given(g));
        for (int i = 3; i <= 6; i++) due("given", i, x.given(i));
        due("the 7th", -1, x.given(7));
        due("about(6)", 6, x.about(6));
        due("no needs", 0, x.worth(-1));
        // 0, 6, 12: three times of 13 hours
        due("need", 0, x.need(0, 1, 3, 13));
        due("need", 1, x.need(1, 0, 3, 12));
        due("need", 2, x.need(0, 2, 1, 1));
        due("worth", 1, x.worth(0));
        due("worth", 0, x.worth(1));
        due("worth", 1, x.worth(2));
        due("worth of all", 2, x.worth(-1));
        due("worth(3)", NO_WORTH, x.worth(3));
        due("worth(-2)", NO_WORTH, x.worth(-2));
        int[][] others = {{0, 0, 1, 1}, {0, 3, 1, 1}, {-1, 0, 1, 1}, {0, 1, 0, 1}, {0, 1, 1000, 1}, {0, 1, 1, 0}, {0, 1, 1, 100001}, {0, 1, -1, -1}};
        for (int[] o : others) due("need for others", -1, x.need(o[0], o[1], o[2], o[3]));
        due("about(7)", 3, x.about(7));
        due("the most that is asked", 3, x.need(0, 1, 999, 100000));
        due("it is got", 1, x.worth(3));
        for (int i = 4; i < 12; i++) due("need", i, x.need(0, 1, 1, 1));
        due("the 13th", -1, x.need(0, 1, 1, 1));
    }

    private static void worthByText() {
        NumberComes x = with(2, 0, 3, 0);
        x.need(0, 1, 3, 13);
        x.need(0, 1, 7, 100000);
        ruled(x, "worth got*10-asked+hours;");
        due("worth", 40, x.worth(0));
        due("worth, cut", 9999, x.worth(1));
        due("worth of all", 10039, x.worth(-1));
        ruled(x, "worth -got*10+asked;");
        due("worth, cut", -9999, x.worth(1));
        due("worth of all", -9999 - 27, x.worth(-1));
        ruled(x, "bars clock=12;");
        due("without worth, barred", 0, x.worth(0));
        x.by(-1);
        due("without a text", 1, x.worth(0));
        x.day(5);
        // by a day of 5: both at 0 alone
        due("by a day", 1, x.worth(0));
    }

    private static void give() {
        NumberComes x = with(7, 0, 9, 1, 5, 0);
        x.need(0, 1, 4, 20);
        due("nothing is given", NO_WORTH, x.give(1, -1));
        x.given(4);
        x.given(3);
        x.given(2);
        x.given(1);
        // the second is 1, 10, 19: with 1 for the first three times, so no worth at all
        due("worth", 0, x.give(1, -1));
        due("the earliest", 4, x.give(1, 0));
        // two: by 4 and 3: 4, 16; 4 and 1: 4, 8, 12, 16
        due("worth of two", 1, x.give(3, -1));
        due("the first", 4, x.give(3, 0));
        due("the second", 1, x.give(3, 1));
        due("numbers stay", 7, x.about(100));
        due("numbers stay", 9, x.about(101));
        due("one who has no needs", 4, x.give(4, 2));
        due("not of it", NO_WORTH, x.give(3, 2));
        due("nobody", NO_WORTH, x.give(3, 3));
        due("who -2", NO_WORTH, x.give(3, -2));
        due("three", NO_WORTH, x.give(7, 0));
        due("set 0", NO_WORTH, x.give(0, -1));
        due("set 8", NO_WORTH, x.give(8, -1));
        ruled(x, "worth 0-got;");
        // 4 and 4 (from 1 on) never meet: the greatest is 0
        due("worth", 0, x.give(3, -1));
        due("the first", 4, x.give(3, 0));
        due("the second", 4, x.give(3, 1));
        ruled(x, "worth got;bars number<3;");
        due("barred by numbers", 2, x.give(3, -1));
        due("the first", 4, x.give(3, 0));
        due("the second", 3, x.give(3, 1));
        no("as it was", x.speaks(1, 2));
        yes("as it was", x.speaks(1, 10));
    }

    private static void mend() {
        NumberComes x = with(6, 0, 4, 0, 5, 0);
        x.need(0, 1, 2, 12);
        x.need(1, 2, 2, 12);
        due("nothing is given", NO_WORTH, x.mend(0));
        x.given(3);
        x.given(2);
        x.given(1);
        due("worth as it is", 0, x.worth(-1));
        // 0 by 3: 0 alone; by 2: 0, 4, 8. 1 by 3: 0, 6 with the first; by 2: with both
        due("who", 1, x.mend(0));
        due("the number", 2, x.mend(1));
        due("the worth", 2, x.mend(2));
        due("what 3", NO_WORTH, x.mend(3));
        due("what -1", NO_WORTH, x.mend(-1));
        due("numbers stay", 4, x.about(101));
        x.change(1, 1, 0);
        due("none is better", NO_WORTH, x.mend(0));
        NumberComes y = with(9, 0, 9, 0);
        y.need(0, 1, 3, 12);
        y.given(2);
        y.given(1);
        due("no one alone can", NO_WORTH, y.mend(0));
        y.change(1, 1, 0);
        due("the lowest of them", 0, y.mend(0));
        due("the earlier one", 2, y.mend(1));
        due("worth", 1, y.mend(2));
        ruled(y, "worth 0-got;bars number=2;");
        due("worth as it is", -2, y.worth(-1));
        due("the lowest of them", 0, y.mend(0));
        due("barred", 2, y.mend(1));
        due("worth", 0, y.mend(2));
        yes("as it was", y.speaks(0, 9));
    }

    private static void cover() {
        due("without people", -1, new NumberComes().cover());
        NumberComes far = new NumberComes();
        far.day(997);
        far.clock(60);
        due("without people", -1, far.cover());
        due("number 1", 1, with(1, 0).cover());
        due("never in odd hours", -1, with(2, 0, 4, 0).cover());
        NumberComes x = with(2, 0, 4, 1, 4, 3, 2, 1);
        due("two", 9, x.cover());
        x.change(3, 6, 1);
        due("three", 7, x.cover());
        x.person(1, 9999);
        due("one, from 9999 on", 16, x.cover());
        due("of like ones the lowest bits", 6, with(4, 0, 2, 0, 2, 1, 2, 1, 2, 0).cover());
        // 5040 = 16 * 9 * 5 * 7
        due("P is 5040", 32, with(16, 0, 9, 0, 5, 0, 7, 0, 24, 0, 1, 0).cover());
        due("P is 5040 * 2", -2, with(32, 0, 9, 0, 5, 0, 7, 0, 24, 0, 1, 0).cover());
        due("P is above", -2, with(9999, 0, 1, 0).cover());
        NumberComes square = with(5041, 0, 1, 0);
        square.clock(1);
        due("P is 5041", -2, square.cover());
        square.change(0, 5040, 0);
        due("P is 5040", 2, square.cover());
        NumberComes twelve = new NumberComes();
        for (int i = 0; i < 12; i++) twelve.person(12, i);
        due("all twelve", 4095, twelve.cover());
        for (int i = 0; i < 24; i++) due("one hour of them", -1, ruled(with(1, 0), "bars clock=" + i + ";").cover());
        NumberComes y = with(1, 1, 1, 5);
        y.day(10);
        due("by a day: hour 0 of it", -1, y.cover());
        y.change(1, 10, 0);
        due("by a day", 3, y.cover());
        y.change(1, 7, 0);
        due("by a day", 3, y.cover());
        y.day(997);
        due("by a day: P is above", -2, y.cover());
        y.clock(5);
        due("by a day: 4985", 3, y.cover());
        NumberComes z = ruled(with(1, 0, 3, 0), "bars who=0 and clock=0;");
        due("barred, and the other is there", 3, z.cover());
        z.change(1, 3, 1);
        due("barred", -1, z.cover());
    }

    private static void apart() {
        NumberComes x = with(2, 5, 4, 5, 4, 5, 60, 0, 61, 0, 3, 0);
        due("one", 0, x.apart(2, 1));
        due("2 and 4", 0, x.apart(3, 0));
        due("2 and 4", 1, x.apart(3, 1));
        due("2, 4 and 4", 0, x.apart(7, 0));
        due("2, 4 and 4", 1, x.apart(7, 1));
        due("2, 4 and 4", 3, x.apart(7, 2));
        due("2, 4, 4 and 60", -1, x.apart(15, 0));
        due("4, 4 and 60", 0, x.apart(14, 1));
        due("4, 4 and 60", 1, x.apart(14, 2));
        due("4, 4 and 60", 2, x.apart(14, 3));
        due("61", -1, x.apart(16, 4));
        due("2 and 3", -1, x.apart(33, 0));
        due("60 and 3", 0, x.apart(40, 3));
        due("60 and 3", 1, x.apart(40, 5));
        due("not of it", -1, x.apart(3, 2));
        due("who -1", -1, x.apart(3, -1));
        due("set 0", -1, x.apart(0, 0));
        due("set 64", -1, x.apart(64, 0));
        NumberComes y = with(5, 0, 5, 0, 5, 0, 5, 0, 5, 0, 5, 0);
        due("five", 4, y.apart(31, 4));
        due("six", -1, y.apart(63, 4));
        due("six who could", -1, with(6, 0, 6, 0, 6, 0, 6, 0, 6, 0, 6, 0).apart(63, 4));
        y.day(7);
        due("a day doesn't count", 4, y.apart(31, 4));
        due("others of five", 3, y.apart(62, 4));
        due("6, 10 and 15", 1, with(6, 0, 10, 0, 15, 0).apart(7, 1));
        due("6, 10 and 15", 2, with(6, 0, 10, 0, 15, 0).apart(7, 2));
        due("three of 2", -1, with(2, 0, 2, 0, 2, 0).apart(7, 0));
    }

    private static void heard() {
        NumberComes x = with(3, 0, 4, 0, 6, 0, 1, 8);
        due("nothing is heard: all fit", 1830, x.fits(60, -1));
        due("up to 1", 1, x.fits(1, -1));
        due("the first", 100, x.fits(60, 0));
        due("the second", 200, x.fits(60, 1));
        due("the third", 201, x.fits(60, 2));
        due("the last", 6059, x.fits(60, 1829));
        due("behind it", -1, x.fits(60, 1830));
        due("most 0", -1, x.fits(0, -1));
        due("most 61", -1, x.fits(61, -1));
        due("i -2", -1, x.fits(60, -2));
        due("nothing is heard: all", 15, x.who());
        due("heard", 1, x.heard(12, true));
        due("who", 15, x.who());
        due("heard", 2, x.heard(7, false));
        due("who", 15, x.who());
        due("heard", 3, x.heard(18, true));
        due("who", 13, x.who());
        due("heard not", 4, x.heard(15, false));
        due("who", 4, x.who());
        // numbers that divide 6, with 12 due and neither 7 nor 15: 2 from 0, 6 from 0
        due("fits", 2, x.fits(60, -1));
        due("fits", 200, x.fits(60, 0));
        due("fits", 600, x.fits(60, 1));
        due("fits", 1, x.fits(5, -1));
        due("heard -1", -1, x.heard(-1, true));
        due("heard beyond", -1, x.heard(1000000, true));
        due("about(8)", 4, x.about(8));
        due("the last hour", 5, x.heard(999999, false));
        due("fits still", 2, x.fits(60, -1));
        for (int i = 6; i <= 20; i++) due("heard", i, x.heard(12, true));
        due("the 21st", -1, x.heard(12, true));
        due("about(8)", 20, x.about(8));
        x.day(12);
        due("fits without a day", 2, x.fits(60, -1));
        due("who by a day: 12 is 0, 18 is 6, 15 is 3, 7, 999999 is 3", 4, x.who());
        ruled(x, "bars clock=12;");
        due("who, barred", 0, x.who());
    }

    private static void bits() {
        NumberComes x = with(1, 0, 7, 3, 59, 1);
        due("all 60", (1L << 60) - 1, x.bits(0, 0));
        long want = 0;
        for (int i = 3; i < 60; i += 7) want |= 1L << i;
        due("from 3 on", want, x.bits(1, 0));
        due("from 5 on", 1L << 55, x.bits(2, 5));
        due("from 1 on: 1 and 60", 1L | 1L << 59, x.bits(2, 1));
        due("nobody", -1, x.bits(3, 0));
        due("nobody", -1, x.bits(-1, 0));
        due("hour -1", -1, x.bits(0, -1));
        due("the last start", (1L << 60) - 1, x.bits(0, START));
        due("too far", -1, x.bits(0, START + 1));
        x.day(30);
        due("by a day", 1L << 2 | 1L << 32, x.bits(2, 29));
        ruled(x, "bars clock<23;");
        due("barred: 23 and 47", 1L << 23 | 1L << 47, x.bits(0, 0));
    }

    private static void other() {
        NumberComes x = with(3, 1);
        // without a day: 1 4 7 10 ..; by a day of 5: 1 4 6 9 11 14 16 19
        due("by another day alone: 6 9 11 14", 4, x.other(0, 5, 16, 0));
        due("as it is alone: 7 10 13", 3, x.other(0, 5, 16, 1));
        due("one hour", 0, x.other(0, 5, 1, 0));
        due("to 7", 1, x.other(0, 5, 7, 0));
        due("to 6", 0, x.other(0, 5, 6, 0));
        x.day(5);
        due("no day, alone", 3, x.other(0, 0, 16, 0));
        due("the day as it is, alone", 4, x.other(0, 0, 16, 1));
        due("the same", 0, x.other(0, 5, 100000, 0));
        due("the same", 0, x.other(0, 5, 100000, 1));
        // a day of 2: 1 3 5 ..; a day of 5: 1 4 of it; of ten hours: 1 3 5 7 9 and 1 4 6 9
        due("2 and 5", 30000, x.other(0, 2, 100000, 0));
        due("5 and 2", 20000, x.other(0, 2, 100000, 1));
        due("999", 1, x.other(0, 999, 9, 0));
        int[][] others = {{1, 0, 5, 0}, {-1, 0, 5, 0}, {0, 1, 5, 0}, {0, 1000, 5, 0}, {0, -1, 5, 0}, {0, 2, 0, 0}, {0, 2, 100001, 0}, {0, 2, 5, 2}, {0, 2, 5, -1}};
        for (int[] o : others) due("other for others", -1, x.other(o[0], o[1], o[2], o[3]));
        due("the day stays", 5, x.about(1));
        ruled(x, "bars clock#3;");
        due("barred: 3", 1, x.other(0, 2, 20, 0));
        due("barred", 0, x.other(0, 2, 20, 1));
    }

    private static void hush() {
        NumberComes x = with(5, 0, 7, 0, 1, 40);
        // 0 5 7 10 14 15 20 21 25 28 30 35, and all from 40 on
        due("how long: 1 .. 4", 4, x.hush(0, 40, 0));
        due("where", 1, x.hush(0, 40, 1));
        due("from 2 on: 16 .. 19", 4, x.hush(2, 40, 0));
        due("from 2 on: where", 16, x.hush(2, 40, 1));
        due("cut: 1 2 3", 3, x.hush(1, 3, 0));
        due("cut at its end: the first of like ones", 33, x.hush(33, 5, 1));
        due("cut at its end", 36, x.hush(34, 5, 1));
        due("none", 0, x.hush(40, 100, 0));
        due("nowhere", -1, x.hush(40, 100, 1));
        due("crowd: the first", 0, x.hush(0, 40, 2));
        due("crowd: how many", 2, x.hush(0, 40, 3));
        due("crowd", 35, x.hush(1, 50, 2));
        due("crowd", 70, x.hush(1, 100, 2));
        due("crowd: how many", 3, x.hush(1, 100, 3));
        due("crowd of nobody", 11, x.hush(11, 3, 2));
        due("crowd of nobody", 0, x.hush(11, 3, 3));
        due("what 4", -1, x.hush(0, 40, 4));
        due("what -1", -1, x.hush(0, 40, -1));
        due("n 0", -1, x.hush(0, 0, 0));
        due("n 100001", -1, x.hush(0, 100001, 0));
        due("hour -1", -1, x.hush(-1, 5, 0));
        due("the last", 0, x.hush(LAST, 1, 0));
        due("too far", -1, x.hush(LAST, 2, 0));
        NumberComes y = new NumberComes();
        due("nobody: all", 100000, y.hush(7, 100000, 0));
        due("nobody: where", 7, y.hush(7, 100000, 1));
        due("nobody: crowd", 7, y.hush(7, 100000, 2));
        NumberComes z = with(9999, 0);
        due("long", 9998, z.hush(0, 100000, 0));
        due("long: where", 1, z.hush(0, 100000, 1));
        z.day(999);
        due("by a day", 998, z.hush(500, 100000, 0));
        due("by a day: where", 1000, z.hush(500, 100000, 1));
    }

    private static void child() {
        NumberComes x = with(4, 1, 6, 2, 2, 0, 3, 0);
        due("of nobody kept from", 1000, x.child(0, 1, 0, 1));
        // with 4 from 1 and 6 from 2, never with 2 from 0: even, and odd firsts; but 6 from 2 is even with even ones
        due("none", -1, x.child(0, 1, 4, 999));
        // never with 3 from 0: 3, first 1 or 2, and first = 2 by 3 for 6 from 2
        due("kept from 3", 3002, x.child(0, 1, 8, 999));
        due("kept from 3, other way", 3002, x.child(1, 0, 8, 3));
        due("kept from 3, up to 2", -1, x.child(0, 1, 8, 2));
        // with 4 from 1 and 3 from 0, never with 2 from 0: 2 from 1
        due("kept from 2", 2001, x.child(0, 3, 4, 999));
        // .. and never with 6 from 2 either
        due("kept from 2 and 6", 2001, x.child(0, 3, 6, 999));
        // with each of two who never meet one another
        due("with each, not with both", 1000, with(2, 0, 2, 1).child(0, 1, 0, 9));
        due("with each, kept from one", 3001, with(2, 0, 2, 1, 3, 0).child(0, 1, 4, 9));
        due("one and the same", -1, x.child(0, 0, 4, 9));
        due("nobody", -1, x.child(0, 4, 4, 9));
        due("nobody", -1, x.child(-1, 0, 4, 9));
        due("one of both", -1, x.child(0, 1, 1, 9));
        due("one of both", -1, x.child(0, 1, 2 + 8, 9));
        due("others", -1, x.child(0, 1, 16, 9));
        due("others", -1, x.child(0, 1, -1, 9));
        due("others", -1, x.child(0, 1, MIN, 9));
        due("most 0", -1, x.child(0, 1, 8, 0));
        due("most 1000", -1, x.child(0, 1, 8, 1000));
        due("the greatest", 997001, with(1, 0, 1, 0, 997, 0).child(0, 1, 4, 999));
        due("the greatest: none below", -1, with(1, 0, 1, 0, 997, 0).child(0, 1, 4, 996));
        due("the least of firsts", 4002, with(2, 0, 1, 0, 4, 0).child(0, 1, 4, 999));
        x.day(5);
        ruled(x, "bars who<9;");
        due("without a day and bars", 3002, x.child(0, 1, 8, 999));
    }

    private static void pairs() {
        NumberComes x = with(2, 0, 3, 0, 4, 0, 9, 0);
        // of 72 hours: 2 3: 12, 4 9: 2; 2 4: 18, 3 9: 8; 2 9: 4, 3 4: 6
        due("in all", 26, x.pairs(15, 72, -1));
        due("the first's", 2, x.pairs(15, 72, 0));
        due("the second's", 3, x.pairs(15, 72, 1));
        due("the third's", 0, x.pairs(15, 72, 2));
        due("the fourth's", 1, x.pairs(15, 72, 3));
        due("two", 12, x.pairs(3, 72, -1));
        due("two", 3, x.pairs(10, 72, 1));
        due("one hour: all alike", 2, x.pairs(15, 1, -1));
        due("of like ones the lowest", 1, x.pairs(15, 1, 0));
        due("of like ones the lowest", 3, x.pairs(15, 1, 2));
        due("three", -1, x.pairs(7, 72, -1));
        due("set 0", -1, x.pairs(0, 72, -1));
        due("set 16 + 1", -1, x.pairs(17, 72, -1));
        due("not of it", -1, x.pairs(3, 72, 2));
        due("who -2", -1, x.pairs(3, 72, -2));
        due("n 0", -1, x.pairs(3, 0, -1));
        due("n 100001", -1, x.pairs(3, 100001, -1));
        due("n 100000", 100000 / 6 + 1, x.pairs(3, 100000, -1));
        NumberComes y = with(1, 0, 1, 0, 1, 0, 1, 0, 1, 0, 1, 0, 1, 0, 1, 0, 1, 0, 1, 0);
        due("eight", 400000, y.pairs(255, 100000, -1));
        due("eight", 6, y.pairs(255, 100000, 7));
        due("ten", -1, y.pairs(1023, 5, -1));
        due("eight of them", 9, y.pairs(1023 - 2 - 8, 5, 8));
        // three in even hours, three in odd ones: one of both kinds are left for one another
        NumberComes z = with(2, 0, 2, 1, 2, 1, 2, 0, 2, 0, 2, 1);
        due("six", 100, z.pairs(63, 100, -1));
        due("six: the first's", 1, z.pairs(63, 100, 0));
        due("six: the third's", 5, z.pairs(63, 100, 2));
        due("six: the fifth's", 3, z.pairs(63, 100, 4));
        z.day(2);
        due("by a day", 1, z.pairs(63, 100, 0));
        ruled(z, "bars who=3;");
        due("barred: then the fifth", 4, z.pairs(63, 100, 0));
    }

    private static void roll() {
        NumberComes x = with(2, 0, 3, 0);
        x.near(0, 1, true);
        x.talk(5, 0, 1);
        x.need(0, 1, 1, 1);
        x.given(4);
        x.heard(6, true);
        x.day(9);
        x.clock(7);
        due("roll(0)", -2, x.roll(0));
        due("roll(-1)", -2, x.roll(-1));
        due("nothing is done", 2, x.about(0));
        due("text", 0, read(x, "bars who=1;person 5 from 6;worth 3;person 7 from 0;near 1,0;person 9999 from 9999;"));
        due("roll(1)", -2, x.roll(1));
        due("nothing is done", 1, x.about(5));
        x.by(0);
        due("roll", -1, x.roll(0));
        int[] about = {3, 9, 7, 1, 0, 0, 1, 0, 1, 0};
        for (int i = 0; i < about.length; i++) due("about(" + i + ")", about[i], x.about(i));
        due("number", 5, x.about(100));
        due("first", 6, x.about(200));
        due("near", 2, x.about(300));
        due("near", 1, x.about(301));
        due("number", 9999, x.about(102));
        due("first", 9999, x.about(202));
        due("near", 0, x.about(302));
        no("the text bars those who are rolled", x.speaks(1, 0));
        yes("but not others", x.speaks(0, 6));
        due("near nobody", 1, read(x, "person 1 from 0;near 0,1;person 1 from 1;"));
        due("roll", 1, x.roll(1));
        due("what was done stays", 1, x.about(0));
        due("near is gone", 0, x.about(300));
        due("near one and the same", 2, read(x, "person 1 from 0;person 2 from 0;near 0,1;near 1,1;"));
        due("roll", 3, x.roll(2));
        due("what was done stays", 2, x.about(300));
        due("thirteen", 3, read(x, "worth 1;" + times(13, "person 1 from 0;")));
        due("roll", 13, x.roll(3));
        due("twelve", 12, x.about(0));
        due("near is gone", 0, x.about(300));
        due("roll again", 3, x.roll(2));
        NumberComes y = with(1, 0);
        y.text();
        due("an empty roll", -1, y.roll(0));
        due("nobody", 0, y.about(0));
    }

    private static void image() {
        NumberComes x = with(2, 0, 3, 1);
        x.near(0, 1, true);
        x.talk(7, 0, 1);
        x.given(5);
        x.need(0, 1, 1, 1);
        x.heard(4, true);
        x.heard(5, false);
        x.day(9);
        x.clock(7);
        ruled(x, "bars clock=0;");
        due("image", 2, x.image());
        x.feed(0x20202020, 0, 0, 0, 0);
        x.end(3);
        x.change(0, 8, 8);
        x.person(4, 4);
        x.near(0, 1, false);
        x.talk(8, 0, 1);
        x.given(6);
        x.need(0, 1, 2, 2);
        x.heard(6, true);
        x.day(0);
        x.clock(24);
        due("a second text", 1, x.text());
        due("a faulty one", -1, read(x, "bars"));
        x.by(1);
        x.feed(0, 0, 0, 0, 0);
        x.end(5);
        for (int k = 0; k < 2; k++) {
            due("back", 2, x.back());
            int[] about = {2, 9, 7, 1, 0, 1, 1, 1, 2, 5};
            for (int i = 0; i < about.length; i++) due("about(" + i + ")", about[i], x.about(i));
            due("number", 2, x.about(100));
            due("first", 0, x.about(200));
            due("near", 2, x.about(300));
            due("nobody", -2, x.about(102));
            due("the latest fault stays", 1, x.fault(0));
            due("its place stays", 4, x.fault(1));
            no("barred", x.speaks(0, 0));
            yes("by a day", x.speaks(0, 9));
            due("talk", 0, x.judge());
            due("given", -1, x.given(5));
            // by the day 4 and not 5: both
            due("who", 3, x.who());
            due("given again", 2, x.given(6));
            x.roll(0);
            x.by(-1);
        }
        // what has come since can be told anew, and is new
        x.back();
        due("a second text anew", 1, read(x, "bars who=0;"));
        x.by(1);
        no("it rules", x.speaks(0, 2));
        due("another image", 2, x.image());
        x.by(0);
        due("back to that", 2, x.back());
        due("the text that ruled", 1, x.about(4));
        due("texts", 2, x.about(3));
        no("it rules", x.speaks(0, 2));
        // talks and needs that are told anew behind a roll
        NumberComes z = with(2, 0, 3, 0, 4, 0);
        z.talk(6, 0, 1);
        z.talk(7, 0, 1);
        z.need(0, 1, 2, 7);
        z.need(1, 2, 2, 12);
        read(z, "person 9 from 1;person 9 from 1;person 1 from 0;");
        z.image();
        z.roll(0);
        z.talk(1, 2, 0);
        z.talk(3, 1, 0);
        z.near(0, 2, true);
        z.need(2, 0, 999, 3);
        z.need(2, 0, 1, 9);
        due("behind the roll", 1, z.judge());
        due("behind the roll", 0, z.worth(0));
        due("behind the roll", 1, z.worth(1));
        z.back();
        due("talks are back", 1, z.judge());
        z.near(0, 2, true);
        z.change(2, 1, 0);
        due("talks are back", 4, z.overheard(0));
        due("needs are back", 1, z.worth(0));
        due("needs are back", 1, z.worth(1));
        z.change(2, 4, 0);
        due("needs are back", 0, z.worth(1));
        NumberComes y = with(1, 0);
        due("image of one", 1, y.image());
        y.heard(3, true);
        y.back();
        y.heard(3, false);
        due("not heard", 1, y.about(8));
        due("who", 0, y.who());
    }

    private static void about() {
        NumberComes x = with(3, 4, 5, 6);
        x.near(0, 1, true);
        due("about(101)", 5, x.about(101));
        due("about(201)", 6, x.about(201));
        due("about(301)", 1, x.about(301));
        for (int i : new int[] {-1, 10, 99, 102, 111, 199, 202, 302, 400, 401, -100, 1100, MAX, MIN}) due("about(" + i + ")", -2, x.about(i));
    }
}
