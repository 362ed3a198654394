import java.lang.reflect.Method;
import java.lang.reflect.Modifier;
import java.util.ArrayList;
import java.util.Comparator;
import java.util.List;
import java.util.Random;

/** Any arguments in any state: no call may throw, and none may take long. */
public final class WildTest {
    private static final long[] EDGES = {0, 1, -1, 2, -2, 5, 11, 12, 13, 24, 60, 61, 63, 64, 65, 100, 255, 300, 999, 1000, 4095, 4096, 9999,
        10000, 99999, 100000, 100001, 999999, 1000000, Integer.MAX_VALUE, Integer.MIN_VALUE, Long.MAX_VALUE, Long.MIN_VALUE, 1L << 32,
        99_999_999_999_999L, 100_000_000_000_000L, 100_000_000_000_001L, 999_999_999_999_999L, 1_000_000_000_000_000L, 1_000_000_000_000_001L};
    private static final String[] WORDS = {"bars ", "worth ", "person ", "near ", " from ", " or ", " and ", "not ", "clock", "number", "first",
        "who", "got", "asked", "hours", "(", ")", "-", "+", "*", "/", "%", "<", "<=", "=", "#", ",", ";", "1", "7", "0", "9999", "10000", "$", "x"};
    private static final Random RANDOM = new Random(20261118);

    public static void main(String[] args) throws Exception {
        List<Method> methods = new ArrayList<>();
        for (Method m : NumberComes.class.getDeclaredMethods()) if (Modifier.isPublic(m.getModifiers())) methods.add(m);
        methods.sort(Comparator.comparing(Method::getName));
        long longest = 0;
        for (int run = 0; run < 300; run++) {
            NumberComes x = new NumberComes();
            for (int i = RANDOM.nextInt(13); i > 0; i--) x.person(1 + RANDOM.nextInt(i % 2 == 0 ? 9 : 9999), RANDOM.nextInt(40));
            for (int call = 0; call < 512; call++) {
                Method m = methods.get(RANDOM.nextInt(methods.size()));
                Object[] with = argumentsOf(m);
                if (RANDOM.nextInt(30) == 0) feedWords(x);
                long start = System.nanoTime();
                try {
                    m.invoke(x, with);
                } catch (ReflectiveOperationException e) {
                    System.out.println(m.getName() + java.util.Arrays.toString(with) + " threw " + e.getCause());
                    System.exit(1);
                }
                longest = Math.max(longest, System.nanoTime() - start);
            }
        }
        System.out.println("the longest call took " + longest / 1000 + " microseconds");
    }

    private static Object[] argumentsOf(Method m) {
        Object[] all = new Object[m.getParameterCount()];
        for (int i = 0; i < all.length; i++) {
            Class<?> type = m.getParameterTypes()[i];
            long value = RANDOM.nextInt(3) == 0 ? EDGES[RANDOM.nextInt(EDGES.length)] : RANDOM.nextInt(RANDOM.nextBoolean() ? 12 : 300);
            if (RANDOM.nextInt(20) == 0) value = RANDOM.nextLong();
            all[i] = type == boolean.class ? (Object) RANDOM.nextBoolean() : type == int.class ? (Object) (int) value : (Object) value;
        }
        return all;
    }

    private static void feedWords(NumberComes x) {
        StringBuilder s = new StringBuilder();
        while (s.length() < 60) s.append(RANDOM.nextInt(4) == 0 ? "bars who<" + RANDOM.nextInt(9) + ";" : WORDS[RANDOM.nextInt(WORDS.length)]);
        int length = s.length();
        while (s.length() % 20 != 0) s.append(' ');
        x.end(0);
        for (int i = 0; i < s.length(); i += 20) {
            int[] v = new int[5];
            for (int j = 0; j < 20; j++) v[j / 4] = v[j / 4] << 8 | s.charAt(i + j);
            x.feed(v[0], v[1], v[2], v[3], v[4]);
        }
        x.end(RANDOM.nextInt(length));
        x.text();
        x.by(0);
    }
}
