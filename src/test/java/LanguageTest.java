import java.lang.reflect.Constructor;
import java.lang.reflect.Field;
import java.lang.reflect.Method;
import java.lang.reflect.Modifier;
import java.nio.file.Files;
import java.nio.file.Path;
import java.util.ArrayList;
import java.util.Arrays;
import java.util.List;
import java.util.Set;
import java.util.TreeSet;
import java.util.regex.Matcher;
import java.util.regex.Pattern;

/** What of ../shared/LANGUAGE.md can be seen from outside: the face, the words that are used, lengths. */
public final class LanguageTest {
    private static final Path SOURCE = Path.of("src/main/java/NumberComes.java");
    private static final String FACE = "int person(int,int) boolean change(int,int,int) boolean day(int) boolean clock(int) "
        + "boolean near(int,int,boolean) int feed(int,int,int,int,int) int end(int) int text() int fault(int) boolean by(int) "
        + "boolean speaks(int,long) long next(int,long) int barred(int,int) long together(int,long,long) int alone(int,long,int) "
        + "long secret(int,int,long,int) long pass(int,long,int,int) int talk(long,int,int) int judge() int overheard(int) "
        + "long turn(int,long,int) int given(int) int need(int,int,int,int) int worth(int) int give(int,int) int mend(int) "
        + "int cover() int apart(int,int) int heard(int,boolean) int fits(int,int) int who() long bits(int,long) "
        + "int other(int,int,int,int) long hush(long,int,int) int child(int,int,int,int) int pairs(int,int,int) int roll(int) "
        + "int image() int back() int about(int)";
    private static final Set<String> LIBRARY = Set.of("Integer.bitCount", "Long.bitCount", "Math.max", "Math.min", "Math.floorMod",
        "System.arraycopy", "Arrays.fill");
    private static int wrong = 0;

    private static void check(boolean good, String what) {
        if (!good) {
            wrong++;
            System.out.println(what);
        }
    }

    public static void main(String[] args) throws Exception {
        Set<String> face = face();
        String code = withoutCommentsAndTexts(Files.readString(SOURCE));
        words(code);
        library(code);
        lengths(code);
        insideNames(face);
        System.out.println(wrong + " wrong");
        if (wrong != 0) System.exit(1);
    }

    private static Set<String> face() {
        Set<String> want = new TreeSet<>();
        Matcher m = Pattern.compile("\\w+ \\w+\\([^)]*\\)").matcher(FACE);
        while (m.find()) want.add(m.group());
        check(want.size() == 40, "the face has " + want.size());
        Set<String> got = new TreeSet<>();
        Set<String> names = new TreeSet<>();
        for (Method method : NumberComes.class.getDeclaredMethods()) {
            int is = method.getModifiers();
            if (Modifier.isPublic(is)) {
                String types = Arrays.toString(method.getParameterTypes()).replaceAll("[\\[\\] ]", "");
                got.add(method.getReturnType() + " " + method.getName() + "(" + types + ")");
                names.add(method.getName());
            } else {
                check(Modifier.isPrivate(is), method + " is neither public nor private");
            }
        }
        check(want.equals(got), "the face is " + got);
        for (Constructor<?> c : NumberComes.class.getDeclaredConstructors()) {
            check(Modifier.isPublic(c.getModifiers()) && c.getParameterCount() == 0, "constructor " + c);
        }
        for (Field f : NumberComes.class.getDeclaredFields()) {
            boolean told = f.getName().equals("NONE") || f.getName().equals("FAR");
            check(told == Modifier.isPublic(f.getModifiers()) && told != Modifier.isPrivate(f.getModifiers()), "field " + f);
        }
        check(Modifier.isFinal(NumberComes.class.getModifiers()), "the class is final");
        return names;
    }

    private static void insideNames(Set<String> face) {
        Class<?>[] inside = NumberComes.class.getDeclaredClasses();
        check(inside.length + 1 <= 12, (inside.length + 1) + " classes");
        List<Class<?>> all = new ArrayList<>(List.of(inside));
        for (Class<?> c : all) {
            check(Modifier.isStatic(c.getModifiers()), c + " isn't static");
            for (Method m : c.getDeclaredMethods()) check(!face.contains(m.getName()), m + " bears a name of the face");
        }
        all.add(NumberComes.class);
        for (Class<?> c : all) {
            int fields = 0;
            for (Field f : c.getDeclaredFields()) {
                if (Modifier.isStatic(f.getModifiers())) check(Modifier.isFinal(f.getModifiers()), f + " isn't final");
                else fields++;
            }
            check(fields <= 20, c + " has " + fields + " fields");
        }
    }

    /** Every sign of a comment, a text or a sign in quotes becomes a blank, so that lines stay. */
    private static String withoutCommentsAndTexts(String s) {
        Matcher m = Pattern.compile("//[^\n]*|/\\*.*?\\*/|\"(?:\\\\.|[^\"\\\\])*\"|'(?:\\\\.|[^'\\\\])'", Pattern.DOTALL).matcher(s);
        return m.replaceAll(r -> r.group().replaceAll("[^\n]", " "));
    }

    private static void words(String code) {
        for (String word : new String[] {"throw", "throws", "try", "catch", "finally", "synchronized", "assert", "volatile", "package",
            "instanceof", "double", "float", "Object", "Exception", "record", "enum", "native", "var"}) {
            check(!Pattern.compile("\\b" + word + "\\b").matcher(code).find(), "the word " + word);
        }
        for (String sign : new String[] {"->", "::", "@", "static {", "Exact"}) check(!code.contains(sign), "the sign " + sign);
        Matcher m = Pattern.compile("import ([^;]+);").matcher(code);
        while (m.find()) check(m.group(1).equals("java.util.Arrays"), "import " + m.group(1));
    }

    private static void library(String code) {
        Matcher m = Pattern.compile("\\b(Integer|Long|Math|System|Arrays|String|Character|Boolean)\\.\\w+").matcher(code);
        while (m.find()) check(LIBRARY.contains(m.group()), "the library's " + m.group());
    }

    private static void lengths(String code) {
        Matcher m = Pattern.compile("^( +)(?:[\\w\\[\\]]+ )*\\w+\\(([^()]*)\\) \\{\n(.*?)^\\1\\}", Pattern.MULTILINE | Pattern.DOTALL).matcher(code);
        int methods = 0;
        while (m.find()) {
            methods++;
            check(m.group(2).split(",").length <= 7, "parameters of " + m.group(2));
            check(m.group(3).split("\n").length <= 60, "length of " + m.group().split("\n")[0]);
        }
        check(methods > 100, "methods found: " + methods);
    }
}
