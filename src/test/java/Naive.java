import java.math.BigInteger;
import java.util.ArrayList;
import java.util.Arrays;
import java.util.List;

/** The document once more, as slow and as plain as can be: what the tests hold NumberComes against. */
public final class Naive {
    static final long LAST = 1_000_000_000_000_000L;
    static final long START = 100_000_000_000_000L;
    static final int BAD = -1_000_000;

    static final class World {
        List<int[]> people = new ArrayList<>();
        boolean[][] near = new boolean[12][12];
        int day = 0;
        int clock = 24;
        List<NaiveText> texts = new ArrayList<>();
        int by = -1;
        List<long[]> talks = new ArrayList<>();
        List<Integer> given = new ArrayList<>();
        List<int[]> needs = new ArrayList<>();
        List<int[]> heard = new ArrayList<>();

        World copy() {
            World w = new World();
            for (int[] p : people) w.people.add(p.clone());
            for (int i = 0; i < 12; i++) w.near[i] = near[i].clone();
            w.day = day;
            w.clock = clock;
            w.texts = new ArrayList<>(texts);
            w.by = by;
            for (long[] t : talks) w.talks.add(t.clone());
            w.given = new ArrayList<>(given);
            for (int[] n : needs) w.needs.add(n.clone());
            for (int[] h : heard) w.heard.add(h.clone());
            return w;
        }
    }

    World w = new World();
    World kept = new World();
    byte[] tape = new byte[0];
    int fault = -1;
    int place = -1;

    // ---- terms

    boolean told(int who) { return who >= 0 && who < w.people.size(); }

    List<Integer> members(int set) {
        List<Integer> all = new ArrayList<>();
        if (set < 0) return all;
        for (int i = 0; i < 31; i++) {
            if ((set >> i & 1) == 1) {
                if (!told(i)) return new ArrayList<>();
                all.add(i);
            }
        }
        return all;
    }

    boolean hour(long h) { return 0 <= h && h <= LAST; }

    boolean due(int who, long h, int day) {
        long t = day == 0 ? h : h % day;
        int[] p = w.people.get(who);
        return t >= p[1] && (t - p[1]) % p[0] == 0;
    }

    boolean bars(int who, long h) {
        if (w.by < 0) return false;
        int[] p = w.people.get(who);
        return w.texts.get(w.by).bars((int) (h % w.clock), p[0], p[1], who);
    }

    boolean sp(int who, long h) { return due(who, h, w.day) && !bars(who, h); }

    boolean allSpeak(List<Integer> set, long h) {
        for (int i : set) if (!sp(i, h)) return false;
        return true;
    }

    List<Integer> speakers(long h) {
        List<Integer> all = new ArrayList<>();
        for (int i = 0; i < w.people.size(); i++) if (sp(i, h)) all.add(i);
        return all;
    }

    static BigInteger big(long x) { return BigInteger.valueOf(x); }

    /** Joins x = a mod m with x = f mod n by trying; null if they never agree. */
    static BigInteger[] joined(BigInteger a, BigInteger m, long f, long n) {
        long rest = a.subtract(big(f)).mod(big(n)).longValueExact();
        long step = m.mod(big(n)).longValueExact();
        for (long k = 0; k < n; k++) {
            if ((rest + k * step) % n == 0) {
                BigInteger x = a.add(m.multiply(big(k)));
                BigInteger l = m.divide(m.gcd(big(n))).multiply(big(n));
                return new BigInteger[] {x.mod(l), l};
            }
        }
        return null;
    }

    /** The classes (rest, modulus) of hours in which all of a set speak (without a day from all firsts on). */
    List<BigInteger[]> classes(List<Integer> set) {
        List<BigInteger[]> found = new ArrayList<>();
        if (w.day > 0) {
            int l = big(w.day).divide(big(w.day).gcd(big(w.clock))).multiply(big(w.clock)).intValue();
            for (int h = 0; h < l; h++) if (allSpeak(set, h)) found.add(new BigInteger[] {big(h), big(l)});
            return found;
        }
        for (int c = 0; c < w.clock; c++) {
            BigInteger[] x = {big(c), big(w.clock)};
            boolean barred = false;
            for (int i : set) barred |= bars(i, c);
            for (int i : set) if (x != null) x = joined(x[0], x[1], w.people.get(i)[1], w.people.get(i)[0]);
            if (x != null && !barred) found.add(x);
        }
        return found;
    }

    BigInteger least(List<Integer> set, long hour) {
        long least = hour;
        if (w.day == 0) for (int i : set) least = Math.max(least, w.people.get(i)[1]);
        return big(least);
    }

    static BigInteger firstIn(BigInteger[] x, BigInteger least) {
        return least.add(x[0].subtract(least).mod(x[1]));
    }

    boolean hours(long hour, long n, long most) {
        if (n < 1 || n > most || !hour(hour)) return false;
        return big(hour).add(big(n)).subtract(BigInteger.ONE).compareTo(big(LAST)) <= 0;
    }

    long count(List<Integer> set, long hour, long n) {
        BigInteger least = least(set, hour);
        BigInteger last = big(hour + n - 1);
        BigInteger sum = BigInteger.ZERO;
        for (BigInteger[] x : classes(set)) {
            BigInteger from = firstIn(x, least);
            if (from.compareTo(last) <= 0) sum = sum.add(last.subtract(from).divide(x[1])).add(BigInteger.ONE);
        }
        return sum.longValueExact();
    }

    static boolean meet(int n1, int f1, int n2, int f2) {
        return Math.floorMod(f1 - f2, big(n1).gcd(big(n2)).intValue()) == 0;
    }

    // ---- the face

    public int person(int number, int first) {
        if (number < 1 || number > 9999 || first < 0 || first > 9999 || w.people.size() == 12) return -1;
        w.people.add(new int[] {number, first});
        return w.people.size() - 1;
    }

    public boolean change(int who, int number, int first) {
        if (!told(who) || number < 1 || number > 9999 || first < 0 || first > 9999) return false;
        w.people.set(who, new int[] {number, first});
        return true;
    }

    public boolean day(int hours) {
        if (hours != 0 && (hours < 2 || hours > 999)) return false;
        w.day = hours;
        return true;
    }

    public boolean clock(int hours) {
        if (hours < 1 || hours > 60) return false;
        w.clock = hours;
        return true;
    }

    public boolean near(int one, int other, boolean is) {
        if (!told(one) || !told(other) || one == other) return false;
        w.near[one][other] = is;
        w.near[other][one] = is;
        return true;
    }

    public int feed(int a, int b, int c, int d, int e) {
        if (tape.length + 20 > 300) return -1;
        int[] all = {a, b, c, d, e};
        int old = tape.length;
        tape = Arrays.copyOf(tape, old + 20);
        for (int i = 0; i < 20; i++) tape[old + i] = (byte) (all[i / 4] >> (24 - 8 * (i % 4)));
        return tape.length;
    }

    public int end(int n) {
        if (n < 0 || n > tape.length) return -1;
        tape = Arrays.copyOf(tape, n);
        return n;
    }

    public int text() {
        if (w.texts.size() == 4) return -1;
        byte[] read = tape;
        tape = new byte[0];
        NaiveText t = new NaiveText(read);
        fault = t.fault;
        place = t.fault == 0 ? -1 : t.place;
        if (t.fault != 0) return -1;
        w.texts.add(t);
        return w.texts.size() - 1;
    }

    public int fault(int what) { return what == 0 ? fault : what == 1 ? place : -1; }

    public boolean by(int text) {
        if (text < -1 || text >= w.texts.size()) return false;
        w.by = text;
        return true;
    }

    public boolean speaks(int who, long hour) { return told(who) && hour(hour) && sp(who, hour); }

    public long next(int set, long hour) {
        List<Integer> s = members(set);
        if (s.isEmpty() || !hour(hour)) return -1;
        BigInteger best = null;
        for (BigInteger[] x : classes(s)) {
            BigInteger h = firstIn(x, least(s, hour));
            if (best == null || h.compareTo(best) < 0) best = h;
        }
        if (best == null) return -1;
        return best.compareTo(big(LAST)) > 0 ? -2 : best.longValueExact();
    }

    public int barred(int set, int what) {
        List<Integer> s = members(set);
        if (s.isEmpty() || w.day > 0 || (what != 0 && what != 1)) return -1;
        for (int i : s) {
            for (int j : s) {
                int[] a = w.people.get(i);
                int[] b = w.people.get(j);
                if (i < j && !meet(a[0], a[1], b[0], b[1])) return what == 0 ? i : j;
            }
        }
        return -1;
    }

    public long together(int set, long hour, long n) {
        List<Integer> s = members(set);
        if (s.isEmpty() || !hours(hour, n, LAST)) return -1;
        return count(s, hour, n);
    }

    public int alone(int who, long hour, int n) {
        if (who != -1 && who != 12 && !told(who) || !hours(hour, n, 100000)) return -1;
        int found = 0;
        for (int i = 0; i < n; i++) {
            List<Integer> s = speakers(hour + i);
            if (who == -1 ? s.isEmpty() : s.size() == 1 && (who == 12 || s.get(0) == who)) found++;
        }
        return found;
    }

    boolean overhears(int k, int one, int other) {
        return k != one && k != other && (w.near[k][one] || w.near[k][other]);
    }

    boolean isSecret(int one, int other, long h) {
        if (!sp(one, h) || !sp(other, h)) return false;
        for (int k : speakers(h)) if (overhears(k, one, other)) return false;
        return true;
    }

    public long secret(int one, int other, long hour, int n) {
        if (!told(one) || !told(other) || one == other || n < 0) return -1;
        if (!hours(hour, n == 0 ? 100000 : n, 100000)) return -1;
        long found = 0;
        for (int i = 0; i < (n == 0 ? 100000 : n); i++) {
            if (isSecret(one, other, hour + i)) {
                if (n == 0) return hour + i;
                found++;
            }
        }
        return n == 0 ? -1 : found;
    }

    public long pass(int from, long hour, int to, int what) {
        if (!told(from) || !told(to) || hour < 0 || hour > START || (what != 0 && what != 1)) return -1;
        if (from == to) return what == 0 ? hour : -1;
        List<Integer> know = new ArrayList<>(List.of(from));
        for (int i = 0; i < 100000; i++) {
            List<Integer> s = speakers(hour + i);
            int teller = -1;
            for (int k : s) if (know.contains(k) && teller < 0) teller = k;
            if (teller < 0) continue;
            if (s.contains(to)) return what == 0 ? hour + i : teller;
            for (int k : s) if (!know.contains(k)) know.add(k);
        }
        return -1;
    }

    public int talk(long hour, int one, int other) {
        if (!hour(hour) || !told(one) || !told(other) || one == other || w.talks.size() == 30) return -1;
        w.talks.add(new long[] {hour, one, other});
        return w.talks.size() - 1;
    }

    public int judge() {
        for (int i = 0; i < w.talks.size(); i++) {
            long[] t = w.talks.get(i);
            if (!sp((int) t[1], t[0]) || !sp((int) t[2], t[0])) return i;
        }
        return -1;
    }

    public int overheard(int talk) {
        if (talk < 0 || talk >= w.talks.size()) return -1;
        long[] t = w.talks.get(talk);
        int bits = 0;
        for (int k : speakers(t[0])) if (overhears(k, (int) t[1], (int) t[2])) bits |= 1 << k;
        return bits;
    }

    /** Hall: a set can be served if all its subsets have hours enough among them. */
    static boolean hall(List<Long> hours) {
        for (int sub = 1; sub < 1 << hours.size(); sub++) {
            long union = 0;
            for (int i = 0; i < hours.size(); i++) if ((sub >> i & 1) == 1) union |= hours.get(i);
            if (Long.bitCount(union) < Integer.bitCount(sub)) return false;
        }
        return true;
    }

    public long turn(int set, long hour, int who) {
        List<Integer> s = members(set);
        if (s.isEmpty() || hour < 0 || hour > START || (who != -1 && !s.contains(who))) return -1;
        for (int width = 1; width <= 64; width++) {
            List<Long> can = new ArrayList<>();
            for (int i : s) {
                long bits = 0;
                for (int h = 0; h < width; h++) if (sp(i, hour + h)) bits |= 1L << h;
                can.add(bits);
            }
            if (!hall(can)) continue;
            if (who == -1) return width;
            for (int i = 0; i < s.size(); i++) {
                for (int h = 0; h < width; h++) {
                    if ((can.get(0) >> h & 1) == 0) continue;
                    List<Long> rest = new ArrayList<>();
                    for (int j = 1; j < can.size(); j++) rest.add(can.get(j) & ~(1L << h));
                    if (hall(rest)) {
                        if (s.get(i) == who) return hour + h;
                        can = rest;
                        break;
                    }
                }
            }
        }
        return -1;
    }

    public int given(int number) {
        if (number < 1 || number > 9999 || w.given.contains(number) || w.given.size() == 6) return -1;
        w.given.add(number);
        return w.given.size();
    }

    public int need(int one, int other, int asked, int hours) {
        if (!told(one) || !told(other) || one == other || asked < 1 || asked > 999) return -1;
        if (hours < 1 || hours > 100000 || w.needs.size() == 12) return -1;
        w.needs.add(new int[] {one, other, asked, hours});
        return w.needs.size() - 1;
    }

    int worthOf(int[] need) {
        int got = (int) count(List.of(need[0], need[1]), 0, need[3]);
        NaiveText t = w.by < 0 ? null : w.texts.get(w.by);
        if (t == null || !t.hasWorth()) return got >= need[2] ? 1 : 0;
        return Math.max(-9999, Math.min(9999, t.worth(got, need[2], need[3])));
    }

    int all() {
        int sum = 0;
        for (int[] n : w.needs) sum += worthOf(n);
        return sum;
    }

    public int worth(int need) {
        if (need == -1) return all();
        return need < 0 || need >= w.needs.size() ? BAD : worthOf(w.needs.get(need));
    }

    public int give(int set, int who) {
        List<Integer> s = members(set);
        if (s.isEmpty() || s.size() > 2 || w.given.isEmpty() || (who != -1 && !s.contains(who))) return BAD;
        World old = w;
        int best = Integer.MIN_VALUE;
        int answer = 0;
        for (int a : old.given) {
            for (int b : s.size() == 2 ? old.given : List.of(0)) {
                w = old.copy();
                w.people.get(s.get(0))[0] = a;
                if (s.size() == 2) w.people.get(s.get(1))[0] = b;
                int worth = all();
                if (worth > best) {
                    best = worth;
                    answer = who == -1 ? worth : w.people.get(who)[0];
                }
            }
        }
        w = old;
        return answer;
    }

    public int mend(int what) {
        if (what < 0 || what > 2) return BAD;
        World old = w;
        int best = all();
        int answer = BAD;
        for (int i = 0; i < old.people.size(); i++) {
            for (int a : old.given) {
                w = old.copy();
                w.people.get(i)[0] = a;
                int worth = all();
                if (worth > best) {
                    best = worth;
                    answer = what == 0 ? i : what == 1 ? a : worth;
                }
            }
        }
        w = old;
        return answer;
    }

    public int cover() {
        if (w.people.isEmpty()) return -1;
        BigInteger p = big(w.clock);
        List<Integer> all = new ArrayList<>();
        if (w.day > 0) all.add(w.day);
        else for (int[] x : w.people) all.add(x[0]);
        for (int n : all) p = p.divide(p.gcd(big(n))).multiply(big(n));
        if (p.compareTo(big(5040)) > 0) return -2;
        int[] masks = new int[p.intValue()];
        for (int i = 0; i < masks.length; i++) for (int k : speakers(10000 + i)) masks[i] |= 1 << k;
        for (int size = 1; size <= w.people.size(); size++) {
            next:
            for (int set = 1; set < 1 << w.people.size(); set++) {
                if (Integer.bitCount(set) != size) continue;
                for (int m : masks) if ((m & set) == 0) continue next;
                return set;
            }
        }
        return -1;
    }

    boolean part(List<Integer> s, List<Integer> firsts) {
        int i = firsts.size();
        if (i == s.size()) return true;
        for (int f = 0; f < w.people.get(s.get(i))[0]; f++) {
            boolean good = true;
            for (int j = 0; j < i; j++) {
                good &= !meet(w.people.get(s.get(i))[0], f, w.people.get(s.get(j))[0], firsts.get(j));
            }
            if (!good) continue;
            firsts.add(f);
            if (part(s, firsts)) return true;
            firsts.remove(i);
        }
        return false;
    }

    public int apart(int set, int who) {
        List<Integer> s = members(set);
        if (s.isEmpty() || s.size() > 5 || !s.contains(who)) return -1;
        for (int i : s) if (w.people.get(i)[0] > 60) return -1;
        List<Integer> firsts = new ArrayList<>();
        return part(s, firsts) ? firsts.get(s.indexOf(who)) : -1;
    }

    public int heard(int hour, boolean is) {
        if (hour < 0 || hour > 999999 || w.heard.size() == 20) return -1;
        w.heard.add(new int[] {hour, is ? 1 : 0});
        return w.heard.size();
    }

    public int fits(int most, int i) {
        if (most < 1 || most > 60) return -1;
        List<Integer> found = new ArrayList<>();
        for (int n = 1; n <= most; n++) {
            for (int f = 0; f < n; f++) {
                boolean good = true;
                for (int[] h : w.heard) good &= (h[0] >= f && (h[0] - f) % n == 0) == (h[1] == 1);
                if (good) found.add(100 * n + f);
            }
        }
        if (i == -1) return found.size();
        return i < 0 || i >= found.size() ? -1 : found.get(i);
    }

    public int who() {
        int bits = 0;
        for (int i = 0; i < w.people.size(); i++) {
            boolean good = true;
            for (int[] h : w.heard) good &= sp(i, h[0]) == (h[1] == 1);
            if (good) bits |= 1 << i;
        }
        return bits;
    }

    public long bits(int who, long hour) {
        if (!told(who) || hour < 0 || hour > START) return -1;
        long bits = 0;
        for (int i = 0; i < 60; i++) if (sp(who, hour + i)) bits |= 1L << i;
        return bits;
    }

    public int other(int who, int day, int n, int what) {
        if (!told(who) || day != 0 && (day < 2 || day > 999) || n < 1 || n > 100000 || (what != 0 && what != 1)) return -1;
        int found = 0;
        for (int h = 0; h < n; h++) {
            boolean by = due(who, h, day) && !bars(who, h);
            boolean as = due(who, h, w.day) && !bars(who, h);
            if (what == 0 ? by && !as : as && !by) found++;
        }
        return found;
    }

    public long hush(long hour, int n, int what) {
        if (!hours(hour, n, 100000) || what < 0 || what > 3) return -1;
        int[] many = new int[n];
        for (int i = 0; i < n; i++) many[i] = speakers(hour + i).size();
        if (what >= 2) {
            int best = 0;
            for (int i = 1; i < n; i++) if (many[i] > many[best]) best = i;
            return what == 2 ? hour + best : many[best];
        }
        int longest = 0;
        int at = -1;
        for (int i = 0; i < n; i++) {
            int j = i;
            while (j < n && many[j] == 0) j++;
            if (j - i > longest) {
                longest = j - i;
                at = i;
            }
            i = Math.max(i, j - 1);
        }
        return what == 0 ? longest : at < 0 ? -1 : hour + at;
    }

    public int child(int one, int other, int keptFrom, int most) {
        if (!told(one) || !told(other) || one == other || most < 1 || most > 999) return -1;
        List<Integer> s = members(keptFrom);
        if (keptFrom != 0 && s.isEmpty() || s.contains(one) || s.contains(other)) return -1;
        for (int n = 1; n <= most; n++) {
            for (int f = 0; f < n; f++) {
                boolean good = true;
                for (int i : List.of(one, other)) good &= meet(n, f, w.people.get(i)[0], w.people.get(i)[1]);
                if (good) for (int i : s) good &= !meet(n, f, w.people.get(i)[0], w.people.get(i)[1]);
                if (good) return 1000 * n + f;
            }
        }
        return -1;
    }

    /** All ways in the order that is preferred: lists of partners. */
    void ways(List<Integer> left, List<int[]> way, List<List<int[]>> all) {
        if (left.isEmpty()) {
            all.add(new ArrayList<>(way));
            return;
        }
        for (int i = 1; i < left.size(); i++) {
            List<Integer> rest = new ArrayList<>(left);
            rest.remove(i);
            rest.remove(0);
            way.add(new int[] {left.get(0), left.get(i)});
            ways(rest, way, all);
            way.remove(way.size() - 1);
        }
    }

    public int pairs(int set, int n, int who) {
        List<Integer> s = members(set);
        if (s.isEmpty() || s.size() % 2 != 0 || s.size() > 8 || n < 1 || n > 100000) return -1;
        if (who != -1 && !s.contains(who)) return -1;
        long[][] many = new long[12][12];
        for (int i : s) for (int j : s) if (i < j) many[i][j] = count(List.of(i, j), 0, n);
        List<List<int[]>> all = new ArrayList<>();
        ways(s, new ArrayList<>(), all);
        long best = -1;
        List<int[]> chosen = null;
        for (List<int[]> way : all) {
            long sum = 0;
            for (int[] p : way) sum += many[p[0]][p[1]];
            if (sum > best) {
                best = sum;
                chosen = way;
            }
        }
        if (who == -1) return (int) best;
        for (int[] p : chosen) if (p[0] == who || p[1] == who) return p[0] + p[1] - who;
        return -1;
    }

    public int roll(int text) {
        if (text < 0 || text >= w.texts.size()) return -2;
        w.people.clear();
        w.near = new boolean[12][12];
        w.talks.clear();
        w.needs.clear();
        List<int[]> clauses = w.texts.get(text).rollClauses;
        for (int[] c : clauses) {
            boolean done = c[0] == 0 ? person(c[1], c[2]) >= 0 : near(c[1], c[2], true);
            if (!done) return c[3];
        }
        return -1;
    }

    public int image() {
        kept = w.copy();
        return w.people.size();
    }

    public int back() {
        w = kept.copy();
        return w.people.size();
    }

    public int about(int what) {
        int who = what % 100;
        if (what >= 100 && what < 400) {
            if (!told(who)) return -2;
            if (what < 300) return w.people.get(who)[what / 100 - 1];
            int bits = 0;
            for (int i = 0; i < 12; i++) if (w.near[who][i]) bits |= 1 << i;
            return bits;
        }
        int[] all = {w.people.size(), w.day, w.clock, w.texts.size(), w.by, w.talks.size(), w.given.size(),
            w.needs.size(), w.heard.size(), tape.length};
        return what < 0 || what > 9 ? -2 : all[what];
    }
}
