import java.nio.charset.StandardCharsets;
import java.nio.file.Files;
import java.nio.file.Path;
import java.util.Arrays;
import java.util.LinkedHashSet;
import java.util.Set;

/** What the tests of edges share: says() opens a test by its promise and the document's words, due() and the like are its checks. */
class Edges {
    static final int NO_WORTH = -1000000;
    static final long LAST = 1000000000000000L;
    static final long START = 100000000000000L;
    static final int MAX = Integer.MAX_VALUE;
    static final int MIN = Integer.MIN_VALUE;
    static final int PROMISES = 41;

    private static final int[] testsOf = new int[PROMISES + 1];
    private static final Set<String> quotes = new LinkedHashSet<>();
    private static int promise;
    private static String quote = "";
    private static int wrong = 0;
    private static int checks = 0;

    /** A call whose answer is held against what is due; a boolean counts 1 or 0. */
    interface Call { long on(NumberComes x); }

    /** The same calls on a new object, each time. */
    interface Made { NumberComes make(); }

    static void says(int itsPromise, String itsQuote) {
        promise = itsPromise;
        quote = itsQuote;
        testsOf[itsPromise]++;
        quotes.add(itsQuote);
    }

    static void due(String what, long want, long got) {
        checks++;
        if (want != got) {
            wrong++;
            System.out.println("promise " + promise + " (" + quote + "): " + what + " answered " + got + ", due is " + want);
        }
    }

    static void yes(String what, boolean got) { due(what, 1, got ? 1 : 0); }

    static void no(String what, boolean got) { due(what, 0, got ? 1 : 0); }

    /** Counts what was wrong, with a promise that has no test. */
    static int report() throws java.io.IOException {
        int all = 0;
        for (int i = 1; i <= PROMISES; i++) {
            all += testsOf[i];
            if (testsOf[i] == 0) {
                wrong++;
                System.out.println("promise " + i + " has no test of its edges");
            }
        }
        tellStrangeQuotes();
        System.out.println(all + " tests of edges, " + checks + " checks, " + wrong + " wrong");
        return wrong;
    }

    /** Told only, since the document may come to say it in other words. */
    private static void tellStrangeQuotes() throws java.io.IOException {
        Path path = Path.of("../shared/DOC.md");
        if (!Files.exists(path)) return;
        String doc = Files.readString(path).replaceAll("\\s+", " ");
        for (String q : quotes) if (!doc.contains(q)) System.out.println("the document doesn't say: " + q);
        String left = System.getProperty("edges.left");
        if (left == null) return;
        for (String q : quotes) doc = doc.replace(q, "");
        System.out.println(doc);
    }

    /** One object with people: number, first, number, first, .. */
    static NumberComes with(int... people) {
        NumberComes x = new NumberComes();
        for (int i = 0; i < people.length; i += 2) x.person(people[i], people[i + 1]);
        return x;
    }

    /** So many people, all alike. */
    static NumberComes crowd(int people, int number, int first) {
        NumberComes x = new NumberComes();
        for (int i = 0; i < people; i++) x.person(number, first);
        return x;
    }

    static void put(NumberComes x, String s) {
        x.end(0);
        byte[] b = Arrays.copyOf(s.getBytes(StandardCharsets.ISO_8859_1), (s.length() + 19) / 20 * 20);
        for (int i = 0; i < b.length; i += 20) {
            int[] v = new int[5];
            for (int j = 0; j < 20; j++) v[j / 4] = v[j / 4] << 8 | b[i + j] & 255;
            x.feed(v[0], v[1], v[2], v[3], v[4]);
        }
        x.end(s.length());
    }

    static int read(NumberComes x, String s) {
        put(x, s);
        return x.text();
    }

    static NumberComes ruled(NumberComes x, String s) {
        x.by(read(x, s));
        return x;
    }

    /** Some of everything, an image that is unlike it, a text that rules, a fault, and a tape. */
    static NumberComes some() {
        NumberComes x = with(2, 0, 3, 1, 4, 2);
        ruled(x, "bars who=2 and clock=6;worth got-asked;person 5 from 6;");
        x.near(0, 1, true);
        x.talk(4, 0, 1);
        x.given(3);
        x.need(0, 1, 2, 20);
        x.heard(4, true);
        x.image();
        x.person(5, 3);
        x.day(50);
        x.clock(20);
        x.near(0, 3, true);
        x.near(0, 1, false);
        x.talk(8, 0, 3);
        x.given(6);
        x.need(1, 3, 1, 99);
        x.heard(9, false);
        ruled(x, "bars clock=19;worth got;");
        read(x, "near 0,12;");
        put(x, "person 7 from 8;near");
        return x;
    }

    /** As much of everything as there can be. */
    static NumberComes full() {
        NumberComes x = new NumberComes();
        for (int i = 0; i < 12; i++) x.person(2 + i, i);
        for (int i = 0; i < 30; i++) x.talk(i, 0, 1 + i % 11);
        for (int i = 1; i <= 6; i++) x.given(i);
        for (int i = 0; i < 12; i++) x.need(i, (i + 1) % 12, 1 + i, 100 * i + 100);
        for (int i = 0; i < 20; i++) x.heard(i, i % 3 == 0);
        read(x, "bars number=2;");
        read(x, "near 0,1;");
        read(x, "worth got;");
        read(x, "");
        x.by(0);
        put(x, "near 0,1;" + " ".repeat(291));
        return x;
    }

    /** A call that is for others: it answers so, and nothing is changed that can be seen. */
    static void refused(String call, long want, Call c) { refusedOn(Edges::some, call, want, c); }

    static void refusedOn(Made made, String call, long want, Call c) {
        NumberComes x = made.make();
        due(call, want, c.on(x));
        unchanged(call, made, x);
    }

    /** A call that only asks leaves all as it was, whatever it answers. */
    static void asks(String call, Call c) {
        NumberComes x = some();
        c.on(x);
        unchanged(call, Edges::some, x);
    }

    static void unchanged(String call, Made made, NumberComes x) {
        long[] was = look(made.make());
        long[] is = look(x);
        yes(call + " changes nothing", Arrays.equals(was, is));
    }

    /** All that can be seen of an object; less than 400 calls, the last of which change it. */
    static long[] look(NumberComes x) {
        long[] seen = new long[500];
        int n = lookAtAll(x, seen, 0);
        seen[n++] = x.text();
        seen[n++] = x.fault(0);
        seen[n++] = x.fault(1);
        seen[n++] = x.about(3);
        seen[n++] = x.about(9);
        seen[n++] = x.back();
        return Arrays.copyOf(seen, lookAtAll(x, seen, n));
    }

    private static int lookAtAll(NumberComes x, long[] seen, int from) {
        int n = from;
        for (int i = 0; i < 10; i++) seen[n++] = x.about(i);
        int people = x.about(0);
        for (int i = 0; i < people; i++) {
            for (int what = 100; what < 400; what += 100) seen[n++] = x.about(what + i);
            seen[n++] = x.bits(i, 0);
            seen[n++] = x.bits(i, START);
            seen[n++] = x.give(1 << i, i);
        }
        for (int i = 0; i <= x.about(5); i++) seen[n++] = x.overheard(i);
        for (int i = -1; i <= x.about(7); i++) seen[n++] = x.worth(i);
        seen[n++] = x.judge();
        seen[n++] = x.mend(1);
        seen[n++] = x.fits(60, -1);
        seen[n++] = x.fits(60, 0);
        seen[n++] = x.who();
        seen[n++] = x.fault(0);
        seen[n++] = x.fault(1);
        return n;
    }
}
