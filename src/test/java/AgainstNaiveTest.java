import java.lang.reflect.Method;
import java.util.ArrayList;
import java.util.Arrays;
import java.util.List;
import java.util.Random;
import java.util.TreeMap;

/** Runs of calls by chance (always the same ones), each answer held against the naive one's. */
public final class AgainstNaiveTest {
    private static final TreeMap<String, Method[]> METHODS = new TreeMap<>();
    private static final TreeMap<String, int[]> COUNTS = new TreeMap<>();

    private final Random random;
    private final NumberComes x = new NumberComes();
    private final Naive naive = new Naive();
    private final List<String> calls = new ArrayList<>();
    private final int style;
    private final boolean calm;
    private boolean wrong = false;

    private AgainstNaiveTest(long seed) {
        random = new Random(seed * 0x9E3779B97F4A7C15L);
        style = random.nextInt(4);
        calm = random.nextInt(3) > 0;
    }

    public static void main(String[] args) throws Exception {
        for (Method m : NumberComes.class.getDeclaredMethods()) {
            if (!java.lang.reflect.Modifier.isPublic(m.getModifiers())) continue;
            METHODS.put(m.getName(), new Method[] {m, Naive.class.getMethod(m.getName(), m.getParameterTypes())});
        }
        int runs = args.length > 0 ? Integer.parseInt(args[0]) : 400;
        long from = args.length > 1 ? Long.parseLong(args[1]) : 1;
        int bad = 0;
        for (long seed = from; seed < from + runs && bad < 5; seed++) {
            AgainstNaiveTest t = new AgainstNaiveTest(seed);
            t.run();
            if (t.wrong) {
                bad++;
                System.out.println("seed " + seed + ": " + String.join("; ", t.calls));
            }
        }
        StringBuilder many = new StringBuilder();
        COUNTS.forEach((k, v) -> many.append(' ').append(k).append(' ').append(v[0]).append('/').append(v[1]));
        System.out.println("calls / answers that aren't -1, -2, 0, -1000000:" + many);
        if (bad > 0) System.exit(1);
    }

    private Object call(String name, Object... args) {
        Object want;
        Object got;
        try {
            want = METHODS.get(name)[1].invoke(naive, args);
            got = METHODS.get(name)[0].invoke(x, args);
        } catch (ReflectiveOperationException e) {
            e.printStackTrace();
            got = e.getCause();
            want = "no exception";
        }
        String all = Arrays.toString(args);
        calls.add(name + "(" + all.substring(1, all.length() - 1) + ") = " + got);
        if (!got.equals(want)) {
            wrong = true;
            calls.add("WRONG, due is " + want);
        }
        int[] c = COUNTS.computeIfAbsent(name, k -> new int[2]);
        c[0]++;
        if (!List.of("-1", "-2", "0", "-1000000", "false").contains(got.toString())) c[1]++;
        return got;
    }

    private int below(int n) { return random.nextInt(n); }

    private boolean rarely() { return below(30) == 0; }

    private int number() {
        if (rarely()) return new int[] {0, -1, 1, 9999, 10000, 60, 61, 5040}[below(8)];
        switch (style) {
            case 0: return 1 + below(6);
            case 1: return 1 + below(24);
            case 2: return below(3) == 0 ? 1 + below(9999) : 1 + below(60);
            default: return new int[] {2, 3, 4, 6, 8, 12, 5, 10}[below(8)];
        }
    }

    private int first() {
        if (rarely()) return new int[] {-1, 0, 9999, 10000, 999, 60}[below(6)];
        return style == 2 ? below(9999) : below(style == 0 ? 4 : 20);
    }

    private int one() {
        int n = naive.w.people.size();
        return rarely() || n == 0 ? below(16) - 2 : below(n);
    }

    private int set() {
        int n = naive.w.people.size();
        if (rarely()) return new int[] {0, -1, 1 << n, 4095, 4096, Integer.MIN_VALUE}[below(6)];
        int set = below(1 << n);
        return below(2) == 0 ? set & below(1 << n) & below(1 << n) : below(2) == 0 ? set & below(1 << n) : set;
    }

    private long hour() {
        switch (below(14)) {
            case 0: return below(2) == 0 ? Naive.LAST - below(20) : Naive.START + below(3) - 1;
            case 1: return rarely() ? Naive.LAST + 1 : below(style == 2 ? 20000 : 500);
            case 2: return rarely() ? -1 : below(3000);
            case 3: return (long) (random.nextDouble() * 1e14);
            case 4: return Naive.LAST - below(200000);
            case 5: return (long) (random.nextDouble() * 9e14);
            default: return below(style == 2 ? 20000 : 100);
        }
    }

    private int hours() {
        int k = below(60);
        if (k == 0) return 100000;
        if (k == 1) return 100001;
        if (k == 2) return -1;
        if (k < 6) return below(100000);
        return below(300);
    }

    private int what(int most) { return rarely() ? below(2) == 0 ? -1 : most + 1 : below(most + 1); }

    private void run() {
        int people = rarely() ? below(13) : 2 + below(11);
        for (int i = 0; i < people; i++) call("person", number(), first());
        for (int i = below(30); i > 0; i--) near();
        for (int i = below(4); i > 0; i--) call("given", number());
        for (int i = below(4); i > 0; i--) need();
        if (below(3) > 0) call("image");
        int steps = 60 + below(80);
        for (int i = 0; i < steps && !wrong; i++) step();
    }

    private void near() { call("near", one(), one(), below(4) > 0); }

    private void step() {
        int k = below(100);
        if (k < 3) call("person", number(), first());
        else if (k < 9) call("change", one(), number(), first());
        else if (calm && k < 24 && below(8) > 0) calm();
        else if (k < 11) call("day", rarely() ? new int[] {1, 1000, -1, 999}[below(4)] : below(2) == 0 ? 0 : below(60));
        else if (k < 13) call("clock", rarely() ? new int[] {0, 61, 60, 1}[below(4)] : 1 + below(below(2) == 0 ? 12 : 60));
        else if (k < 17) near();
        else if (k < 22) readText();
        else if (k < 24) call("by", below(6) - 1);
        else if (k < 25) call(below(3) > 0 ? "roll" : "about", below(naive.w.texts.size() + 2) - 1);
        else if (k < 26) call(below(3) > 0 ? "image" : "back");
        else if (k < 29) talk();
        else if (k < 31) call("given", number());
        else if (k < 34) need();
        else if (k < 35) call("heard", rarely() ? below(1000002) - 1 : below(60), below(3) > 0);
        else ask();
    }

    /** So that runs without a day, with the first clock and without bars are long enough. */
    private void calm() {
        switch (below(12)) {
            case 0: call("day", 0); break;
            case 1: call("clock", new int[] {24, 12, 1, 5, 6}[below(5)]); break;
            case 2: call("by", -1); break;
            case 3: call("near", one(), one(), true); break;
            default: ask(); break;
        }
    }

    private void need() {
        call("need", one(), one(), rarely() ? below(1002) : 1 + below(9), below(10) == 0 ? hours() : 1 + below(80));
        if (below(3) == 0) call("given", 1 + below(4));
    }

    /** An hour in which all of a set speak, if there is one soon. */
    private long goodHour(int set) {
        long good = naive.next(set, below(200));
        return good >= 0 && below(6) > 0 ? good : hour();
    }

    private void talk() {
        int one = one();
        int other = one();
        call("talk", goodHour(1 << one | 1 << other), one, other);
    }

    private int oneOf(int set) {
        for (int i = 0; i < 9; i++) {
            int one = one();
            if (one >= 0 && (set >> one & 1) == 1) return one;
        }
        return one();
    }

    private void apart() {
        int set = set();
        call("apart", set, oneOf(set));
        call("apart", set, oneOf(set));
    }

    private void speaks() {
        int one = one();
        call("speaks", one, goodHour(1 << one));
    }

    private void ask() {
        switch (below(28)) {
            case 0: speaks(); break;
            case 1: case 2: call("next", set(), hour()); break;
            case 3: call("barred", set(), what(1)); break;
            case 4: case 5: call("together", set(), hour(), below(3) == 0 ? hour() : (long) below(1000)); break;
            case 6: call("alone", below(3) == 0 ? below(14) - 1 : one(), hour(), hours()); break;
            case 7: call("secret", one(), one(), hour(), below(3) == 0 ? 0 : hours()); break;
            case 8: call("pass", one(), hour(), one(), what(1)); break;
            case 9: call("judge"); break;
            case 10: call("overheard", below(8) - 1); break;
            case 11: case 12: turn(); break;
            case 13: call("worth", below(8) - 1); break;
            case 14: give(); break;
            case 15: call("mend", what(2)); break;
            case 16: call("cover"); break;
            case 17: apart(); break;
            case 18: call("fits", 1 + below(61), below(10) - 2); break;
            case 19: call("who"); break;
            case 20: call("bits", one(), hour()); break;
            case 21: call("other", one(), below(70), hours(), what(1)); break;
            case 22: call("hush", hour(), hours(), what(3)); break;
            case 23: call("child", one(), one(), below(3) == 0 ? 0 : set(), below(10) == 0 ? below(1002) : 1 + below(60)); break;
            case 24: pairs(); break;
            case 25: call("cover"); break;
            case 26: call("mend", what(2)); break;
            default: about(); break;
        }
    }

    private void about() {
        call("about", below(12) - 1);
        call("about", 100 * (1 + below(4)) + below(13));
        call("fault", below(4) - 1);
    }

    private void turn() {
        int set = set();
        long hour = hour();
        call("turn", set, hour, -1);
        for (int i = 0; i < 3; i++) call("turn", set, hour, oneOf(set));
    }

    private void give() {
        int set = set();
        if (below(3) > 0 && !naive.w.people.isEmpty()) set = 1 << below(naive.w.people.size()) | 1 << below(naive.w.people.size());
        call("give", set, -1);
        call("give", set, oneOf(set));
        call("give", set, oneOf(set));
    }

    private void pairs() {
        int set = set();
        for (int i = 0; i < 3 && Integer.bitCount(set) % 2 != 0; i++) set = set();
        int hours = hours();
        call("pairs", set, hours, -1);
        call("pairs", set, hours, oneOf(set));
        call("pairs", set, hours, oneOf(set));
    }

    // ---- texts

    private void readText() {
        if (rarely()) call("end", below(40) - 1);
        else call("end", 0);
        String s = clauses();
        if (below(3) == 0) s = spoilt(s);
        byte[] bytes = Arrays.copyOf(s.getBytes(java.nio.charset.StandardCharsets.ISO_8859_1), (s.length() + 19) / 20 * 20);
        int old = naive.tape.length;
        for (int i = 0; i + 20 <= bytes.length && old + i <= 300; i += 20) {
            call("feed", four(bytes, i), four(bytes, i + 4), four(bytes, i + 8), four(bytes, i + 12), four(bytes, i + 16));
        }
        call("end", Math.min(naive.tape.length, old + s.length()));
        Object got = call("text");
        call("fault", 0);
        call("fault", 1);
        call("about", 9);
        if (!got.equals(-1) && below(3) > 0) call("by", got);
    }

    private static int four(byte[] b, int i) {
        return (b[i] & 255) << 24 | (b[i + 1] & 255) << 16 | (b[i + 2] & 255) << 8 | b[i + 3] & 255;
    }

    private String blank() { return below(5) == 0 ? new String[] {"", "  ", "\n", " \n"}[below(4)] : " "; }

    private String clauses() {
        StringBuilder s = new StringBuilder();
        int n = rarely() ? 20 + below(8) : below(6);
        if (below(3) == 0) for (int i = below(6); i > 0; i--) s.append("person ").append(1 + below(9)).append(" from ").append(below(9)).append(";");
        boolean worth = false;
        for (int i = 0; i < n; i++) {
            int k = below(n > 10 ? 3 : 5);
            if (k >= 3) s.append("bars ").append(either()).append(blank()).append(';');
            else if (k == 0 && !worth) {
                worth = !rarely();
                s.append("worth ").append(sum(2, true)).append(blank()).append(';');
            } else if (k == 1) s.append("near ").append(below(3)).append(blank()).append(",").append(below(rarely() ? 13 : 3)).append(";");
            else s.append("person ").append(1 + below(9)).append(" from ").append(below(9)).append(";");
            if (below(4) == 0) s.append(blank());
        }
        return s.toString();
    }

    private String either() {
        StringBuilder s = new StringBuilder(asks());
        for (int i = below(3) == 0 ? below(3) : 0; i > 0; i--) s.append(below(2) == 0 ? " or " : " and ").append(asks());
        return s.toString();
    }

    private String asks() {
        StringBuilder s = new StringBuilder();
        for (int i = below(4) == 0 ? below(5) : 0; i > 0; i--) s.append("not ");
        String sign = new String[] {"<", "<=", ">", ">=", "=", "#"}[below(6)];
        if (below(2) == 0) {
            String name = below(3) == 0 ? "who" : "clock";
            return s.append(name).append(' ').append(new String[] {"<", "=", "= 5 +"}[below(3)]).append(' ').append(below(4)).toString();
        }
        return s.append(sum(2, false)).append(blank()).append(sign).append(blank()).append(sum(1, false)).toString();
    }

    private String sum(int depth, boolean worth) {
        StringBuilder s = new StringBuilder(leaf(depth, worth));
        for (int i = below(3); i > 0; i--) s.append(blank()).append("+-*/%".charAt(below(5))).append(blank()).append(leaf(depth, worth));
        return s.toString();
    }

    private String leaf(int depth, boolean worth) {
        int k = below(10);
        if (k == 0 && depth > 0) return "(" + sum(depth - 1, worth) + ")";
        if (k == 1) return "-" + leaf(depth - 1, worth);
        if (k == 2 && below(30) == 0) return "((((((((" + sum(0, worth) + "))))))))";
        if (k < 6) return String.valueOf(rarely() ? below(10002) : below(9));
        if (rarely()) worth = rarely() != worth;
        return worth ? new String[] {"got", "asked", "hours"}[below(3)] : new String[] {"clock", "number", "first", "who"}[below(4)];
    }

    private String spoilt(String s) {
        StringBuilder b = new StringBuilder(s);
        for (int i = 1 + below(2); i > 0 && b.length() > 0; i--) {
            int at = below(b.length());
            String[] bits = {"(", ")", "not ", "-", " and ", " or ", ";", ",", "10000", "0", "worth ", "bars ", "x", "$", "\t", "<", "=", " from ",
                "clock", "got", "Bars", "((((", "----", "not not not ", "\0", "" + (char) 233, "00012"};
            int k = below(4);
            if (k == 0) b.deleteCharAt(at);
            else if (k == 1) b.setLength(at);
            else b.insert(at, bits[below(bits.length)]);
        }
        return b.toString();
    }
}
