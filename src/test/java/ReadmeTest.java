import java.nio.file.Files;
import java.nio.file.Path;
import java.util.ArrayList;
import java.util.List;
import java.util.Set;
import java.util.TreeSet;
import java.util.regex.Matcher;
import java.util.regex.Pattern;
import java.util.stream.Collectors;
import java.util.stream.Stream;
import javax.tools.ToolProvider;

/** What README.md says is so: its examples answer what stands behind them, its classes and tests are those that there are. */
public final class ReadmeTest {
    private static final Pattern BLOCK = Pattern.compile("^```(\\w+)\n(.*?)^```$", Pattern.MULTILINE | Pattern.DOTALL);
    private static final Pattern TOLD = Pattern.compile("(?:(?:int|long) (\\w+) = )?(.*);\\s*// (-?\\d+|true|false)(?::.*)?");
    private static int wrong = 0;

    private static void check(boolean good, String what) {
        if (!good) {
            wrong++;
            System.out.println(what);
        }
    }

    /** Called by the program that is made of the examples. */
    public static void due(String line, Object got, String want) {
        check(String.valueOf(got).equals(want), line + " answered " + got + ", README.md says " + want);
    }

    public static void main(String[] args) throws Exception {
        String readme = Files.readString(Path.of("README.md"));
        Path build = Files.createTempDirectory("readme");
        try {
            examples(readme, build);
            commands(readme, build);
        } finally {
            try (Stream<Path> all = Files.walk(build)) {
                for (Path p : all.sorted((a, b) -> b.compareTo(a)).collect(Collectors.toList())) Files.delete(p);
            }
        }
        classes(readme);
        tests(readme);
        System.out.println(wrong + " wrong");
        if (wrong != 0) System.exit(1);
    }

    private static List<String> linesOf(String readme, String language) {
        List<String> lines = new ArrayList<>();
        Matcher m = BLOCK.matcher(readme);
        while (m.find()) {
            if (m.group(1).equals(language)) lines.addAll(List.of(m.group(2).split("\n")));
        }
        return lines;
    }

    /** The examples as they stand must be a program; with a check behind each line that tells an answer they are run. */
    private static void examples(String readme, Path build) throws Exception {
        StringBuilder plain = new StringBuilder("public class Yours {\n public static void main(String[] args) {\n");
        StringBuilder checked = new StringBuilder("public class Checked {\n public static void main(String[] args) {\n");
        Set<String> called = new TreeSet<>();
        int told = 0;
        for (String line : linesOf(readme, "java")) {
            plain.append(line).append('\n');
            Matcher m = TOLD.matcher(line);
            if (!m.matches()) {
                check(!line.contains("//"), "no answer behind " + line);
                checked.append(line).append('\n');
            } else {
                told++;
                String name = m.group(1);
                String text = "\"" + m.group(2).replace("\"", "\\\"") + "\"";
                if (name != null) checked.append(line).append('\n');
                checked.append("ReadmeTest.due(" + text + ", " + (name == null ? m.group(2) : name) + ", \"" + m.group(3) + "\");\n");
            }
            Matcher call = Pattern.compile("\\bx\\.(\\w+)\\(").matcher(line);
            while (call.find()) called.add(call.group(1));
        }
        check(told > 50, "examples that tell an answer: " + told);
        for (java.lang.reflect.Method m : NumberComes.class.getDeclaredMethods()) {
            boolean face = java.lang.reflect.Modifier.isPublic(m.getModifiers());
            check(!face || called.contains(m.getName()), "no example calls " + m.getName());
        }
        compile(build, "Yours", plain + "}\n}\n");
        if (compile(build, "Checked", checked + "}\n}\n")) {
            try (java.net.URLClassLoader loader = new java.net.URLClassLoader(new java.net.URL[] {build.toUri().toURL()})) {
                loader.loadClass("Checked").getMethod("main", String[].class).invoke(null, (Object) new String[0]);
            }
        }
    }

    private static boolean compile(Path build, String name, String source) throws Exception {
        Path file = build.resolve(name + ".java");
        Files.writeString(file, source);
        String[] args = {"-d", build.toString(), "-cp", System.getProperty("java.class.path"), file.toString()};
        boolean good = ToolProvider.getSystemJavaCompiler().run(null, null, null, args) == 0;
        check(good, "the examples don't compile");
        return good;
    }

    /** The lines of the shell, but for the folder that they build in, do what they say. */
    private static void commands(String readme, Path build) throws Exception {
        String out = build.resolve("out").toString();
        String yours = build.resolve("Yours.java").toString();
        StringBuilder script = new StringBuilder("set -e\n");
        for (String line : linesOf(readme, "sh")) {
            check(line.startsWith("javac -d out ") || line.startsWith("java "), "a command of another kind: " + line);
            script.append(line.replaceAll("\\bout\\b", out).replace("Yours.java", yours)).append('\n');
        }
        Process shell = new ProcessBuilder("bash", "-c", script.toString()).redirectErrorStream(true).start();
        String said = new String(shell.getInputStream().readAllBytes());
        check(shell.waitFor() == 0, "the commands failed:\n" + script + said);
    }

    private static void classes(String readme) {
        Set<String> there = new TreeSet<>();
        for (Class<?> c : NumberComes.class.getDeclaredClasses()) there.add(c.getSimpleName());
        Set<String> told = new TreeSet<>();
        Matcher row = Pattern.compile("^\\| (`[^|]*) \\|", Pattern.MULTILINE).matcher(readme);
        while (row.find()) told.addAll(inQuotes(row.group(1)));
        check(there.equals(told), "classes: " + there + ", README.md says " + told);
    }

    private static void tests(String readme) throws Exception {
        Set<String> there = new TreeSet<>();
        try (Stream<Path> all = Files.list(Path.of("src/test/java"))) {
            for (Path p : all.collect(Collectors.toList())) there.add(p.getFileName().toString().replace(".java", ""));
        }
        there.removeIf(name -> name.startsWith("EdgesOf"));
        Set<String> told = new TreeSet<>();
        Matcher item = Pattern.compile("^- (`.*?):", Pattern.MULTILINE | Pattern.DOTALL).matcher(readme);
        while (item.find()) told.addAll(inQuotes(item.group(1)));
        told.remove("EdgesOf..");
        for (String name : there) check(told.contains(name) || readme.contains("`" + name + "`"), "README.md doesn't tell of " + name);
        for (String name : told) check(there.contains(name), "README.md tells of " + name + ", which isn't there");
        check(Files.isExecutable(Path.of(".ci/run")) && readme.contains("`.ci/run`"), ".ci/run");
    }

    private static Set<String> inQuotes(String s) {
        Set<String> found = new TreeSet<>();
        Matcher m = Pattern.compile("`([^`]*)`").matcher(s);
        while (m.find()) found.add(m.group(1));
        return found;
    }
}
