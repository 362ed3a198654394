/** Promises 7 to 11, and what the document tells of texts. */
final class EdgesOfTexts extends Edges {
    static void all() {
        feed();
        end();
        text();
        texts();
        blanks();
        words();
        numbers();
        signs();
        everySign();
        clauses();
        conditions();
        sums();
        sumEdges();
        names();
        faultOrder();
        faultsOfPlace();
        faultsOfNumbers();
        faultsOfDepth();
        faultsOfWorthAndNames();
        faultsOfClauses();
        fault();
        by();
    }

    /** A text alone in a new object; what is 0 for one without a fault. */
    private static void reads(String s, int what, int place) {
        NumberComes x = new NumberComes();
        due("text of " + s, what == 0 ? 0 : -1, read(x, s));
        due("fault of " + s, what, x.fault(0));
        due("its place in " + s, place, x.fault(1));
        due("the tape behind " + s, 0, x.about(9));
        due("texts behind " + s, what == 0 ? 1 : 0, x.about(3));
    }

    private static void isGood(String s) { reads(s, 0, -1); }

    /** What worth answers for a sum; GOT is 5, ASKED 3, HOURS 9. */
    private static void sum(String s, int want) {
        NumberComes x = ruled(with(2, 0, 1, 0), "worth " + s + ";");
        x.need(0, 1, 3, 9);
        due("worth " + s, want, x.worth(0));
    }

    /** Whether the second one (number 3, first 2) is barred at clock 5. */
    private static void bar(String s, boolean bars) {
        NumberComes x = ruled(with(1, 0, 3, 2), "bars " + s + ";");
        due("text of bars " + s, 1, x.about(3));
        due("bars " + s, bars ? 0 : 1, x.speaks(1, 29) ? 1 : 0);
    }

    private static void feed() {
        says(7, "Twenty bytes come behind the tape, the highest of a first: how many it has.");
        NumberComes x = new NumberComes();
        // "person 1 from 9;pers" and "on 2 from 3;        "
        due("the first twenty", 20, x.feed(0x70657273, 0x6f6e2031, 0x2066726f, 0x6d20393b, 0x70657273));
        due("twenty more, behind them", 40, x.feed(0x6f6e2032, 0x2066726f, 0x6d20333b, 0x20202020, 0x20202020));
        due("both are one text", 0, x.text());
        due("all is done", -1, x.roll(0));
        int[] want = {1, 2, 9, 3};
        for (int i = 0; i < 4; i++) due("as it was fed", want[i], x.about(100 + i / 2 * 100 + i % 2));
        // every byte is told from the others by its place: the one that is none
        for (int i = 0; i < 20; i++) {
            int[] v = {0x20202020, 0x20202020, 0x20202020, 0x20202020, 0x20202020};
            v[i / 4] ^= (0x20 ^ 0xff) << 24 - i % 4 * 8;
            NumberComes y = new NumberComes();
            due("twenty", 20, y.feed(v[0], v[1], v[2], v[3], v[4]));
            due("byte 255", -1, y.text());
            due("its place", i, y.fault(1));
        }
        says(7, "NONE, and none come, if there would be more than 300.");
        for (int i = 0; i < 15; i++) due("feed", 20 * i + 20, x.feed(0x20202020, 0x20202020, 0x20202020, 0x20202020, 0x20202020));
        due("the 16th", -1, x.feed(0, 0, 0, 0, 0));
        due("none have come", 300, x.about(9));
        due("cut to 281", 281, x.end(281));
        due("301 would be too many", -1, x.feed(0, 0, 0, 0, 0));
        due("none have come", 281, x.about(9));
        due("blanks alone", 1, x.text());
        for (int i = 0; i < 14; i++) x.feed(0x20202020, 0x20202020, 0x20202020, 0x20202020, 0x20202020);
        due("300 are not too many", 300, x.feed(0x20202020, 0x20202020, 0x20202020, 0x20202020, 0x20202078));
        due("the 300th byte", -1, x.text());
        due("its place", 299, x.fault(1));
        refusedOn(Edges::full, "feed behind 300", -1, y -> y.feed(1, 2, 3, 4, 5));
        refusedOn(EdgesOfTexts::almostFull, "feed behind 281", -1, y -> y.feed(1, 2, 3, 4, 5));
    }

    private static NumberComes almostFull() {
        NumberComes x = some();
        put(x, "person 7 from 8;" + " ".repeat(265));
        return x;
    }

    private static void end() {
        says(8, "The tape has its first n bytes alone: n.");
        NumberComes x = new NumberComes();
        due("none of none", 0, x.end(0));
        put(x, "near 0,1;near 0,2;$$");
        due("all of it", 20, x.end(20));
        due("all of it stays", 20, x.about(9));
        due("one less", 19, x.end(19));
        due("the first 18", 18, x.end(18));
        due("feed behind them", 38, x.feed(0x24202020, 0x20202020, 0x20202020, 0x20202020, 0x20202020));
        due("the first are the first", -1, x.text());
        due("and the others behind them", 18, x.fault(1));
        put(x, "near 0,1;near 0,2;$$");
        due("none", 0, x.end(0));
        due("none is left", 0, x.about(9));
        put(x, "near 0,1;near 0,2;$$");
        x.end(9);
        due("one clause", 0, x.text());
        says(8, "NONE, and nothing is done, if it has not so many, or n is below 0.");
        refused("end(21) of 20", -1, y -> y.end(21));
        refused("end(300) of 20", -1, y -> y.end(300));
        refused("end(-1)", -1, y -> y.end(-1));
        refused("end(MIN)", -1, y -> y.end(MIN));
        refused("end(MAX)", -1, y -> y.end(MAX));
        refusedOn(NumberComes::new, "end(1) of none", -1, y -> y.end(1));
        refusedOn(NumberComes::new, "end(-1) of none", -1, y -> y.end(-1));
        refusedOn(Edges::full, "end(301) of 300", -1, y -> y.end(301));
        NumberComes z = full();
        due("end(300) of 300", 300, z.end(300));
        // what was cut off doesn't come again
        NumberComes w = new NumberComes();
        put(w, "near 0,1;");
        w.end(4);
        due("end(9) of 4", -1, w.end(9));
        due("text of 4", -1, w.text());
        due("its end", 4, w.fault(1));
    }

    private static void text() {
        says(9, "The tape (empty then) is a TEXT: its number.");
        NumberComes x = new NumberComes();
        due("an empty one", 0, x.text());
        due("it has no fault", 0, x.fault(0));
        put(x, "near 0,1;");
        due("the next one", 1, x.text());
        due("the tape", 0, x.about(9));
        due("the next one is empty", 2, x.text());
        says(9, "NONE: it has a FAULT;");
        NumberComes y = new NumberComes();
        for (int i = 0; i < 5; i++) due("with a fault", -1, read(y, "near 0,12;"));
        due("no text has come", 0, y.about(3));
        due("the tape", 0, y.about(9));
        due("the next one has the first number", 0, read(y, "near 0,11;"));
        says(9, "TEXTS 0 .. 3: of up to 300 bytes.");
        // 6 + 2 * 146 + 2 = 300 bytes
        sum("1+".repeat(146) + "1", 147);
        reads("worth " + "1+".repeat(146) + "11", 1, 300);
        reads("worth " + "1+".repeat(147), 1, 300);
        isGood(" ".repeat(300));
        isGood("\n".repeat(291) + "near 0,1;");
        reads(" ".repeat(299) + "x", 1, 299);
        isGood("near 0,1" + " ".repeat(291) + ";");
        sum("0".repeat(292) + "7", 7);
        reads("x".repeat(300), 1, 0);
        reads("worth " + "1".repeat(294), 2, 6);
    }

    private static void texts() {
        says(9, "or (the tape stays) there are 4.");
        NumberComes x = with(1, 0);
        for (int i = 0; i < 4; i++) due("text", i, read(x, "bars clock=" + i + ";"));
        put(x, "near 0,12;");
        due("the fifth", -1, x.text());
        due("the tape stays", 10, x.about(9));
        due("the fifth, again", -1, x.text());
        due("the tape stays", 10, x.about(9));
        due("there are 4", 4, x.about(3));
        for (int i = 0; i < 4; i++) {
            yes("each is there", x.by(i));
            for (int h = 0; h < 5; h++) due("as it was", h == i ? 0 : 1, x.speaks(0, h) ? 1 : 0);
        }
        refusedOn(Edges::full, "the fifth", -1, y -> y.text());
        // back to fewer: the tape that stayed is a text then
        x.back();
        due("back to none", 0, x.about(3));
        due("the tape that stayed has a fault", -1, x.text());
        due("2", 2, x.fault(0));
        due("at 7", 7, x.fault(1));
        due("text 0 anew", 0, read(x, "bars clock=7;"));
        x.person(1, 0);
        x.by(0);
        no("it is another one", x.speaks(0, 7));
        // nothing is left of what was read there before: neither clauses nor what they reckon
        NumberComes y = new NumberComes();
        read(y, "person 1 from 0;".repeat(3) + "worth 1;");
        y.back();
        due("text 0 anew", 0, read(y, "person 2 from 0;worth 2;"));
        y.roll(0);
        due("one alone", 1, y.about(0));
        NumberComes z = with(1, 0);
        for (int i = 0; i < 5; i++) due("faulty", -1, read(z, "bars 1=1" + "+1".repeat(140) + "+got;"));
        ruled(z, "bars " + "1+1-".repeat(60) + "clock=0-1;");
        no("all its steps are done: 2 less 3", z.speaks(0, 3));
        yes("all its steps are done: 2 less 4", z.speaks(0, 4));
        yes("and not the old one", x.speaks(0, 0));
    }

    private static void blanks() {
        says(9, "TOKENS, blanks (32, 10) aside:");
        isGood("\n bars\nclock\n=\n 1 \n;\n ");
        isGood("near   11 \n,\n 0 ;");
        isGood("bars clock<= 1;");
        isGood("bars 1=1or 1=1and not 1=1;");
        for (char c : new char[] {0, 9, 11, 12, 13, 31, 33, 127, 128, 133, 160, 255}) {
            reads(c + "near 0,1;", 1, 0);
            reads("near 0" + c + ",1;", 1, 6);
            reads("near 0,1;" + c, 1, 9);
        }
    }

    private static void words() {
        says(9, "letters a .. z, A .. Z one behind the other (one TOKEN)");
        for (char c : new char[] {'a', 'z', 'A', 'Z', 'm', 'M'}) {
            reads("near" + c + " 0,1;", 1, 0);
            reads(c + "near 0,1;", 1, 0);
            reads("near 0,1;" + c, 1, 9);
        }
        for (char c : new char[] {'`', '{', '@', '['}) {
            reads("near" + c + " 0,1;", 1, 4);
            reads("bars who" + c + "=1;", 1, 8);
        }
        reads("bar s who=1;", 1, 0);
        reads("ba\nrs who=1;", 1, 0);
        reads("BARS who=1;", 1, 0);
        reads("bars Who=1;", 1, 5);
        reads("bars who=1 OR who=2;", 1, 11);
        reads("bars whowho=1;", 1, 5);
        reads("bars wh=1;", 1, 5);
        // letters and digits are two tokens, with nothing between them
        isGood("bars1=1;");
        isGood("person1from0;");
        isGood("bars who=1or who=2and who=3;");
        reads("bars who1=1;", 1, 8);
        reads("bars 1who=1;", 1, 6);
    }

    private static void numbers() {
        says(9, "digits likewise (NUMBERS, 0 .. 9999)");
        sum("0", 0);
        sum("9999", 9999);
        sum("0009", 9);
        sum("00000000009999", 9999);
        sum("8642-0", 8642);
        sum("0123+4567+89", 4779);
        reads("worth 10000;", 2, 6);
        reads("worth 00010000;", 2, 6);
        reads("worth 4294967296;", 2, 6);
        reads("worth 4294967301;", 2, 6);
        reads("worth 2147483648;", 2, 6);
        reads("worth 18446744073709551617;", 2, 6);
        reads("worth 1 2;", 1, 8);
        reads("worth 1\n2;", 1, 8);
        reads("worth 1:;", 1, 7);
        reads("worth 1.;", 1, 7);
    }

    private static void signs() {
        says(9, "<= >= < > = # + - * / % ( ) , ; (the longest)");
        bar("clock<=5", true);
        bar("clock>=5", true);
        bar("clock <=5", true);
        bar("clock>= 5", true);
        reads("bars clock< =5;", 1, 12);
        reads("bars clock> =5;", 1, 12);
        reads("bars clock=<5;", 1, 11);
        reads("bars clock=>5;", 1, 11);
        reads("bars clock<==5;", 1, 12);
        reads("bars clock<>5;", 1, 11);
        reads("bars clock##5;", 1, 11);
        reads("bars clock<", 1, 11);
        reads("bars clock<=", 1, 12);
        sum("7--2", 9);
        sum("7-(2)", 5);
        reads("worth 7++2;", 1, 8);
        reads("worth 7**2;", 1, 8);
        reads("worth 7//2;", 1, 8);
        reads("worth 7%%2;", 1, 8);
    }

    /** Each byte behind "worth 1": where the first token is that can't stand. */
    private static void everySign() {
        says(9, "1 it can't stand there, or is none.");
        for (int c = 0; c < 256; c++) {
            String s = "worth 1" + (char) c + ";";
            boolean digit = c >= '0' && c <= '9';
            if (c == ' ' || c == '\n' || digit) isGood(s);
            else reads(s, 1, c == ';' || "+-*/%".indexOf(c) >= 0 ? 8 : 7);
        }
    }

    private static void clauses() {
        says(9, "{CLAUSE}, 24 at most: bars EITHER ; or worth SUM ; (once) or person NUMBER from NUMBER ; or near NUMBER , NUMBER ;.");
        isGood("");
        isGood("worth 1;");
        isGood("bars 1=1;bars 1=1;worth 1;near 0,0;near 0,0;person 1 from 0;person 1 from 0;");
        isGood("near 0,1;".repeat(24));
        isGood("near 0,1;".repeat(23) + "worth got;");
        isGood("bars who=1;".repeat(24));
        // all 24 are of force: the first, and the last
        NumberComes x = ruled(with(1, 0), "bars 1=0;".repeat(23) + "bars clock=3;");
        no("the last of 24", x.speaks(0, 3));
        yes("the last of 24", x.speaks(0, 4));
        NumberComes y = ruled(with(1, 0), "bars clock=3;" + "bars 1=0;".repeat(23));
        no("the first of 24", y.speaks(0, 3));
        NumberComes z = ruled(with(1, 0, 1, 0), "near 0,1;".repeat(23) + "worth 77;");
        z.need(0, 1, 1, 1);
        due("worth as the last of 24", 77, z.worth(0));
        for (String s : new String[] {"bars 1=1", "worth 1", "person 1 from 1", "near 1,1"}) {
            reads(s, 1, s.length());
            reads(s + ",", 1, s.length());
            reads(s + ";;", 1, s.length() + 1);
            isGood(s + " ; ");
        }
        for (String s : new String[] {"bars", "worth", "person", "near"}) {
            reads(s, 1, s.length());
            reads(s + ";", 1, s.length());
        }
        for (String s : new String[] {"from", "or", "and", "not", "clock", "got", "5", "(", "-"}) reads(s + " 1;", 1, 0);
    }

    private static void conditions() {
        says(9, "EITHER: BOTH {or BOTH}. BOTH: ASK {and ASK}.");
        // or of and: the second one's who is 1
        bar("who=1 or who=0 and who=0", true);
        bar("who=0 and who=0 or who=1", true);
        bar("who=0 and who=1 or who=0", false);
        bar("who=1 and who=0 or who=0", false);
        bar("who=0 or who=0 or who=0 or who=1", true);
        bar("who=1 and who=1 and who=1 and who=0", false);
        bar("who=0 or who=1 and who=1 or who=0", true);
        reads("bars who=1 or;", 1, 13);
        reads("bars who=1 and;", 1, 14);
        reads("bars or who=1;", 1, 5);
        reads("bars who=1 or or who=1;", 1, 14);
        says(9, "ASK: not ASK, or SUM one of < <= > >= = # (unlike) SUM.");
        String[] signs = {"<", "<=", ">", ">=", "=", "#"};
        boolean[][] so = {{true, false, false}, {true, true, false}, {false, false, true}, {false, true, true}, {false, true, false}, {true, false, true}};
        for (int i = 0; i < 6; i++) {
            for (int j = 0; j < 3; j++) {
                bar("clock" + signs[i] + (6 - j), so[i][j]);
                bar("not clock" + signs[i] + (6 - j), !so[i][j]);
                bar("not not clock" + signs[i] + (6 - j), so[i][j]);
            }
        }
        // not goes before and, and takes one ASK alone
        bar("not who=0 and who=1", true);
        bar("not who=1 and who=0", false);
        bar("not who=1 or who=1", true);
        bar("who=1 and not who=0", true);
        reads("bars 1;", 1, 6);
        reads("bars 1=1=1;", 1, 8);
        reads("bars not;", 1, 8);
        reads("bars (1=1);", 1, 7);
        reads("bars (1)=(1", 1, 11);
        says(9, "or and and look at both sides always.");
        bar("who=1 or 1/0=1", true);
        bar("1/0=0 or who=0", true);
        bar("who=0 and 1%0=0", false);
    }

    private static void sums() {
        says(9, "SUM: PRODUCT {+ or - PRODUCT}. PRODUCT: ONE {* or / or % ONE}.");
        sum("2+3*4", 14);
        sum("2*3+4", 10);
        sum("20-6/4", 19);
        sum("20-6%4", 18);
        sum("2*3+4*5-6", 20);
        says(9, "ONE: NUMBER, NAME, ( SUM ), - ONE.");
        sum("(2+3)*4", 20);
        sum("((2))", 2);
        sum("-(2+3)", -5);
        sum("-2*3", -6);
        sum("2*-3", -6);
        sum("-2-3", -5);
        sum("--2", 2);
        sum("2---3", -1);
        sum("-got", -5);
        sum("(-got)", -5);
        sum("10%-3", 1);
        says(9, "From the left;");
        sum("100-10-1", 89);
        sum("100/10/5", 2);
        sum("100/10*5", 50);
        sum("100%7*5", 10);
        sum("5*100%7", 3);
        sum("7*3/2", 10);
        sum("7/2*3", 9);
        sum("10-3+2", 9);
    }

    private static void sumEdges() {
        says(9, "/ cuts towards 0, % is what that leaves (of the sign of what is divided), both by 0 are 0;");
        sum("7/2", 3);
        sum("-7/2", -3);
        sum("7/-2", -3);
        sum("-7/-2", 3);
        sum("1/2", 0);
        sum("-1/2", 0);
        sum("7%2", 1);
        sum("-7%2", -1);
        sum("7%-2", 1);
        sum("-7%-2", -1);
        sum("6%3", 0);
        sum("7/0", 0);
        sum("-7/0", 0);
        sum("0/0", 0);
        sum("7%0", 0);
        sum("-7%0", 0);
        sum("7/(got-5)+1", 1);
        says(9, "what is above 1000000 (below the same less) is that, at each step.");
        // 1000000 itself stays, one more is cut to it
        sum("1000*1000-9999*100", 100);
        sum("1000*1000+1-9999*100", 100);
        sum("1000*1000-1-9999*100", 99);
        sum("0-1000*1000+9999*100", -100);
        sum("0-1000*1000-1+9999*100", -100);
        sum("0-1000*1000+1+9999*100", -99);
        sum("1001*1000-9999*100", 100);
        sum("-1001*1000+9999*100", -100);
        sum("-1000*-1001-9999*100", 100);
        sum("9999*9999*9999/1000", 1000);
        sum("9999*9999*-9999/1000", -1000);
        sum("-9999*9999*9999*9999/1000", -1000);
        sum("1000*1000+1000*1000-1000*1000", 0);
        sum("(0-1000*1000-1000*1000)/1000", -1000);
        sum("-(1000*1000+1)/1000", -1000);
    }

    private static void names() {
        says(9, "NAMES of bars: clock, number, first, who; of worth: got, asked, hours.");
        bar("clock=5", true);
        bar("number=3", true);
        bar("first=2", true);
        bar("who=1", true);
        bar("clock*1000+number*100+first*10+who=5321", true);
        sum("got*100+asked*10+hours", 539);
        // the least and the greatest that they come to
        for (String s : new String[] {"number<9999", "first<9999", "who<11", "number=9999 and first=9999 and who=11"}) {
            NumberComes x = ruled(crowd(12, 9999, 9999), "bars " + s + ";");
            due("bars " + s, s.contains("=") ? 0 : 1, x.speaks(11, 9999) ? 1 : 0);
        }
        NumberComes y = with(1, 0);
        y.clock(60);
        ruled(y, "bars number=1 and first=0 and who=0 and clock=59;");
        no("clock 59", y.speaks(0, 59));
        yes("clock 58", y.speaks(0, 58));
        NumberComes z = ruled(with(1, 0, 1, 0), "worth got-9999*10-9+(asked-998)+(hours-9999*10-9);");
        z.need(0, 1, 999, 100000);
        due("the greatest GOT, ASKED and HOURS", 3, z.worth(0));
        NumberComes w = ruled(with(1, 1, 1, 0), "worth got*100+asked*10+hours;");
        w.need(0, 1, 1, 1);
        due("the least GOT, ASKED and HOURS", 11, w.worth(0));
    }

    private static void faultOrder() {
        says(9, "FAULTS, the first as TOKENS are come to, at the TOKEN's first byte (of the end at the length), of one the least:");
        reads("bars 10000=got;", 2, 5);
        reads("bars got=10000;", 5, 5);
        reads("worth 1;near 12,0;worth 1;", 2, 13);
        reads("worth 1;worth 10000;", 4, 8);
        reads("near 0,1", 1, 8);
        reads("near 0,1  \n", 1, 11);
        reads("near", 1, 4);
        reads("bars   getting=1;", 1, 7);
        // of one token the least: a number where none may stand, worth and the 25th
        reads("person 1 10000 1;", 1, 9);
        reads("near 1,2 12;", 1, 9);
        reads("10000", 1, 0);
        reads("worth 1;" + "near 0,1;".repeat(23) + "worth", 4, 215);
        reads("near 0,1;".repeat(24) + "from", 1, 216);
        reads("bars (1 (", 1, 8);
        reads("worth " + "(".repeat(8) + "1(", 1, 15);
        reads("worth " + "-".repeat(8) + "1;x", 1, 16);
    }

    private static void faultsOfPlace() {
        says(10, "1 it can't stand there, or is none.");
        for (String s : new String[] {"$", "\"", "&", "'", ".", ":", "?", "!", "^", "_", "|", "~", "\\", "" + (char) 0, "" + (char) 255}) {
            reads(s, 1, 0);
            reads("bars " + s + "=1;", 1, 5);
            reads("person " + s + " from 1;", 1, 7);
            reads("near 1" + s + "2;", 1, 6);
        }
        for (String s : new String[] {"+", "*", "/", "%", "<", "<=", ">", ">=", "=", "#", ")", ",", ";"}) {
            reads("bars " + s + "1=1;", 1, 5);
            reads("worth " + s + "1;", 1, 6);
            reads("worth (" + s + "1);", 1, 7);
            reads("worth -" + s + "1;", 1, 7);
        }
        for (String s : new String[] {"bars", "worth", "person", "near", "from", "or", "and"}) {
            reads("bars " + s + "=1;", 1, 5);
            reads("bars 1=" + s + ";", 1, 7);
            reads("worth " + s + ";", 1, 6);
        }
        reads("bars 1=not 1=1;", 1, 7);
        reads("worth not 1;", 1, 6);
        reads("worth 1<2;", 1, 7);
        reads("worth 1 or 2;", 1, 8);
        reads("worth (1;", 1, 8);
        reads("worth 1);", 1, 7);
        reads("worth ();", 1, 7);
        reads("person 1 to 2;", 1, 9);
        reads("person 1,2;", 1, 8);
        reads("person from 2;", 1, 7);
        reads("person (1) from 2;", 1, 7);
        reads("person 1 from -2;", 1, 14);
        reads("near 0 from 1;", 1, 7);
        reads("near -0,1;", 1, 5);
        reads("near 0,1,2;", 1, 8);
    }

    private static void faultsOfNumbers() {
        says(10, "2 a NUMBER that isn't one of those told (above 9999; of person 0; of near above 11).");
        isGood("bars 0=9999;");
        reads("bars 10000=0;", 2, 5);
        reads("bars 0=10000;", 2, 7);
        reads("bars not (10000)=0;", 2, 10);
        isGood("worth 9999;");
        reads("worth 10000;", 2, 6);
        reads("worth -10000;", 2, 7);
        isGood("person 1 from 0;");
        isGood("person 9999 from 9999;");
        reads("person 0 from 0;", 2, 7);
        reads("person 000 from 0;", 2, 7);
        reads("person 10000 from 0;", 2, 7);
        reads("person 1 from 10000;", 2, 14);
        isGood("near 0,11;");
        isGood("near 11,0;");
        isGood("near 11,11;");
        isGood("near 00011,0;");
        reads("near 12,0;", 2, 5);
        reads("near 0,12;", 2, 7);
        reads("near 10000,0;", 2, 5);
        reads("near 0,10000;", 2, 7);
    }

    private static void faultsOfDepth() {
        says(10, "3 the 9th of ( not and - (of one ONE) that are open around one another (at it).");
        isGood("worth " + "(".repeat(8) + "1" + ")".repeat(8) + ";");
        reads("worth " + "(".repeat(9) + "1" + ")".repeat(9) + ";", 3, 14);
        isGood("worth " + "-".repeat(8) + "1;");
        reads("worth " + "-".repeat(9) + "1;", 3, 14);
        isGood("bars " + "not ".repeat(8) + "1=1;");
        reads("bars " + "not ".repeat(9) + "1=1;", 3, 37);
        isGood("bars " + "not ".repeat(7) + "(1)=-1;");
        isGood("bars " + "not ".repeat(4) + "(-(-1))=1;");
        reads("bars " + "not ".repeat(4) + "(-(-(1)))=1;", 3, 25);
        isGood("bars not not not (-(-(1)))=-(-((1)));");
        reads("bars not not not (-(-(1)))=-(-(((1))));", 3, 32);
        // a - between two is not of one ONE, and what is closed is not open
        isGood("worth " + "1-".repeat(20) + "1;");
        isGood("worth 1" + "-".repeat(9) + "1;");
        reads("worth 1" + "-".repeat(10) + "1;", 3, 16);
        isGood("worth " + "(1)+".repeat(12) + "1;");
        isGood("worth " + "-1*".repeat(12) + "1;");
        isGood("bars " + "not 1=1 and ".repeat(12) + "1=1;");
        isGood("bars not 1=1 and 1=" + "(".repeat(8) + "1" + ")".repeat(8) + ";");
        isGood("bars not 1=1 or " + "not ".repeat(8) + "1=1;");
        isGood("worth " + "-".repeat(8) + "1-" + "-".repeat(8) + "1;");
        isGood("worth (((-1)))*" + "(".repeat(8) + "1" + ")".repeat(8) + ";");
        sum("-(-(-(-(got))))", 5);
        sum("--------got", 5);
        sum("-------got", -5);
    }

    private static void faultsOfWorthAndNames() {
        says(10, "4 worth for the second time (at it).");
        reads("worth 1;worth 1;", 4, 8);
        reads("worth 1; \nworth", 4, 10);
        reads("worth 1;bars 1=1;near 0,1;worth 1;", 4, 26);
        reads("worth 1;worths 1;", 1, 8);
        isGood("bars 1=1;worth 1;bars 1=1;");
        // of another text it is the first time
        NumberComes x = new NumberComes();
        due("worth", 0, read(x, "worth 1;"));
        due("worth of another text", 1, read(x, "worth 1;"));
        due("worth twice", -1, read(x, "worth 1;worth 1;"));
        due("worth once behind that", 2, read(x, "worth 1;"));
        says(10, "5 a NAME that isn't of that CLAUSE (at it).");
        for (String name : new String[] {"clock", "number", "first", "who"}) {
            reads("worth " + name + ";", 5, 6);
            reads("worth -(1+" + name + ");", 5, 10);
            isGood("bars 1=1 or " + name + "=1;");
            reads("near " + name + ",1;", 1, 5);
        }
        for (String name : new String[] {"got", "asked", "hours"}) {
            reads("bars " + name + "=1;", 5, 5);
            reads("bars not 1=2*" + name + ";", 5, 13);
            isGood("worth 1+" + name + ";");
            reads("person " + name + " from 1;", 1, 7);
        }
        isGood("worth got;bars who=1;");
        reads("worth got;bars got=1;", 5, 15);
        reads("bars who=1;worth who;", 5, 17);
    }

    private static void faultsOfClauses() {
        says(10, "6 the 25th CLAUSE (at its first TOKEN).");
        for (String s : new String[] {"bars", "worth", "person", "near"}) {
            reads("near 0,1;".repeat(24) + s, 6, 216);
            reads("near 0,1;".repeat(24) + " \n" + s + " $", 6, 218);
        }
        isGood("near 0,1;".repeat(24) + "  ");
        reads("near 0,1;".repeat(23) + "near 0,12;near 0,1;", 2, 214);
        reads("bars 1=1;".repeat(24) + "bars 1=1;", 6, 216);
    }

    private static void fault() {
        says(10, "NONE for others, and ahead of any.");
        NumberComes x = new NumberComes();
        for (int what : new int[] {0, 1, 2, -1, MIN, MAX}) due("ahead of any: fault(" + what + ")", -1, x.fault(what));
        put(x, "near");
        due("a tape that isn't read yet", -1, x.fault(0));
        x.text();
        for (int what : new int[] {-1, 2, 3, MIN, MAX}) refused("fault(" + what + ")", -1, y -> y.fault(what));
        for (int what : new int[] {-1, 2}) due("fault(" + what + ")", -1, x.fault(what));
        says(10, "Of the latest text that was read: 0 its FAULT (0 without), 1 its place (NONE without).");
        due("its fault", 1, x.fault(0));
        due("its place", 4, x.fault(1));
        read(x, "near 0,1;");
        due("the latest is without", 0, x.fault(0));
        due("without a place", -1, x.fault(1));
        read(x, "near 12,1;");
        due("the latest", 2, x.fault(0));
        due("its place", 5, x.fault(1));
        x.end(0);
        x.feed(0, 0, 0, 0, 0);
        due("feed and end leave it", 2, x.fault(0));
        x.image();
        x.back();
        due("back leaves it", 2, x.fault(0));
        due("back leaves it", 5, x.fault(1));
        for (int i = 0; i < 3; i++) read(x, "");
        read(x, "near 12");
        due("a fifth one isn't read", 0, x.fault(0));
        due("a fifth one isn't read", -1, x.fault(1));
    }

    private static void by() {
        says(11, "THE TEXT (NONE: none): true.");
        NumberComes x = full();
        for (int i : new int[] {0, 3, -1, -1, 3}) {
            yes("by(" + i + ")", x.by(i));
            due("about(4)", i, x.about(4));
        }
        yes("none of none", new NumberComes().by(-1));
        says(11, "`boolean by(int text)`: THE TEXT (NONE: none): true. False for others.");
        for (int i : new int[] {-2, 2, 3, 4, MIN, MAX}) refused("by(" + i + ") of two", 0, y -> y.by(i) ? 1 : 0);
        for (int i : new int[] {-2, 4, 5}) refusedOn(Edges::full, "by(" + i + ") of four", 0, y -> y.by(i) ? 1 : 0);
        for (int i : new int[] {0, 1, -2}) refusedOn(NumberComes::new, "by(" + i + ") of none", 0, y -> y.by(i) ? 1 : 0);
        NumberComes z = new NumberComes();
        read(z, "near 0,12;");
        no("one with a fault is none", z.by(0));
        read(z, "near 0,1;");
        yes("one without is one", z.by(0));
        z.back();
        no("behind back it is none", z.by(0));
        due("and none rules", -1, z.about(4));
    }
}
