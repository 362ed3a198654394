import java.util.ArrayList;
import java.util.List;
import java.util.Set;
import java.util.regex.Matcher;
import java.util.regex.Pattern;

/** A text read as a tree, for the tests: all tokens first, then clause by clause. */
final class NaiveText {
    /** What a tree answers for its names. */
    interface Tree { int of(java.util.Map<String, Integer> names); }

    static final class Fault extends RuntimeException {
        final int what;
        final int at;
        Fault(int what, int at) { this.what = what; this.at = at; }
    }

    record Token(String s, int at) { }

    static final Set<String> BARS = Set.of("clock", "number", "first", "who");
    static final Set<String> WORTH = Set.of("got", "asked", "hours");
    static final Pattern TOKEN = Pattern.compile("[ \n]*+([a-zA-Z]+|[0-9]+|<=|>=|[<>=#+\\-*/%(),;]|[^ \n])", Pattern.DOTALL);

    int fault = 0;
    int place = -1;
    final List<Tree> barsTrees = new ArrayList<>();
    Tree worthTree = null;
    /** kind (0 person, 1 near), two numbers, the number among all clauses */
    final List<int[]> rollClauses = new ArrayList<>();

    private final List<Token> tokens = new ArrayList<>();
    private int i = 0;
    private int open = 0;
    private Set<String> names = BARS;

    NaiveText(byte[] bytes) {
        String s = new String(bytes, java.nio.charset.StandardCharsets.ISO_8859_1);
        Matcher m = TOKEN.matcher(s);
        while (m.find()) tokens.add(new Token(m.group(1), m.start(1)));
        tokens.add(new Token("", bytes.length));
        try {
            int n = 0;
            while (!peek().isEmpty()) clause(n++);
        } catch (Fault f) {
            fault = f.what;
            place = f.at;
        }
    }

    boolean hasWorth() { return worthTree != null; }

    private final java.util.Map<Long, Boolean> barred = new java.util.HashMap<>();

    /** Remembered, since hours come again and again to the same clocks. */
    boolean bars(int clock, int number, int first, int who) {
        long key = ((clock * 10000L + number) * 10000L + first) * 12 + who;
        return barred.computeIfAbsent(key, k -> isBarred(clock, number, first, who));
    }

    private boolean isBarred(int clock, int number, int first, int who) {
        for (Tree t : barsTrees) {
            if (t.of(java.util.Map.of("clock", clock, "number", number, "first", first, "who", who)) == 1) return true;
        }
        return false;
    }

    int worth(int got, int asked, int hours) {
        return worthTree.of(java.util.Map.of("got", got, "asked", asked, "hours", hours));
    }

    private String peek() { return tokens.get(i).s(); }

    private Fault bad(int what) { return new Fault(what, tokens.get(i).at()); }

    private void take(String s) {
        if (!peek().equals(s)) throw bad(1);
        i++;
    }

    private boolean digits() { return !peek().isEmpty() && Character.isDigit(peek().charAt(0)); }

    private int number(int least, int most) {
        if (!digits()) throw bad(1);
        java.math.BigInteger v = new java.math.BigInteger(peek());
        if (v.compareTo(java.math.BigInteger.valueOf(least)) < 0 || v.compareTo(java.math.BigInteger.valueOf(most)) > 0) throw bad(2);
        i++;
        return v.intValue();
    }

    private void clause(int n) {
        String s = peek();
        if (!Set.of("bars", "worth", "person", "near").contains(s)) throw bad(1);
        if (s.equals("worth") && worthTree != null) throw bad(4);
        if (n == 24) throw bad(6);
        i++;
        if (s.equals("bars")) {
            names = BARS;
            barsTrees.add(either());
        } else if (s.equals("worth")) {
            names = WORTH;
            worthTree = sum();
        } else {
            boolean person = s.equals("person");
            int a = number(person ? 1 : 0, person ? 9999 : 11);
            take(person ? "from" : ",");
            int b = number(0, person ? 9999 : 11);
            rollClauses.add(new int[] {person ? 0 : 1, a, b, n});
        }
        take(";");
    }

    private Tree either() {
        Tree left = both();
        while (peek().equals("or")) {
            i++;
            Tree a = left;
            Tree b = both();
            left = m -> Math.max(a.of(m), b.of(m));
        }
        return left;
    }

    private Tree both() {
        Tree left = ask();
        while (peek().equals("and")) {
            i++;
            Tree a = left;
            Tree b = ask();
            left = m -> Math.min(a.of(m), b.of(m));
        }
        return left;
    }

    private void opens() {
        if (open == 8) throw bad(3);
        open++;
        i++;
    }

    private Tree ask() {
        if (peek().equals("not")) {
            opens();
            Tree a = ask();
            open--;
            return m -> a.of(m) == 1 ? 0 : 1;
        }
        Tree a = sum();
        String s = peek();
        if (!Set.of("<", "<=", ">", ">=", "=", "#").contains(s)) throw bad(1);
        i++;
        Tree b = sum();
        return m -> {
            int c = Integer.compare(a.of(m), b.of(m));
            return (s.equals("<") && c < 0) || (s.equals("<=") && c <= 0) || (s.equals(">") && c > 0)
                || (s.equals(">=") && c >= 0) || (s.equals("=") && c == 0) || (s.equals("#") && c != 0) ? 1 : 0;
        };
    }

    private static int cut(long x) { return x > 1000000 ? 1000000 : x < -1000000 ? -1000000 : (int) x; }

    private Tree sum() {
        Tree left = product();
        while (Set.of("+", "-").contains(peek())) {
            boolean plus = peek().equals("+");
            i++;
            Tree a = left;
            Tree b = product();
            left = m -> cut(plus ? (long) a.of(m) + b.of(m) : (long) a.of(m) - b.of(m));
        }
        return left;
    }

    private Tree product() {
        Tree left = one();
        while (Set.of("*", "/", "%").contains(peek())) {
            String s = peek();
            i++;
            Tree a = left;
            Tree b = one();
            left = m -> {
                long x = a.of(m);
                long y = b.of(m);
                if (s.equals("*")) return cut(x * y);
                if (y == 0) return 0;
                long quotient = Math.abs(x) / Math.abs(y) * Long.signum(x) * Long.signum(y);
                return cut(s.equals("/") ? quotient : x - quotient * y);
            };
        }
        return left;
    }

    private Tree one() {
        if (digits()) {
            int v = number(0, 9999);
            return m -> v;
        }
        String s = peek();
        if (names.contains(s)) {
            i++;
            return m -> m.get(s);
        }
        if (BARS.contains(s) || WORTH.contains(s)) throw bad(5);
        if (s.equals("(")) {
            opens();
            Tree a = sum();
            take(")");
            open--;
            return a;
        }
        if (s.equals("-")) {
            opens();
            Tree a = one();
            open--;
            return m -> -a.of(m);
        }
        throw bad(1);
    }
}
