import java.io.IOException;
import java.lang.reflect.Method;
import java.lang.reflect.Modifier;
import java.net.URL;
import java.net.URLClassLoader;
import java.nio.file.Files;
import java.nio.file.Path;
import java.util.ArrayList;
import java.util.Comparator;
import java.util.List;
import java.util.Set;
import java.util.TreeSet;
import java.util.regex.Matcher;
import java.util.regex.Pattern;
import java.util.stream.Collectors;
import java.util.stream.Stream;
import javax.tools.JavaCompiler;
import javax.tools.ToolProvider;

/**
 * README.md says only what is so: its lines of Java are compiled as they stand there and answer what
 * stands behind them; every call of the class is among them; its command and its list of tests are there.
 */
public final class ReadmeTest {
    private static final Path README = Path.of("README.md"), TESTS = Path.of("src/test/java");
    private static final Pattern NEW = Pattern.compile("CrewPairings \\w+ = new CrewPairings\\(\\);");
    private static final Pattern SHOWN = Pattern.compile(
            "((?:int|long) (\\w+) = )?((?:x|CrewPairings)\\.(\\w+).*);\\s+// (-?\\d+|[A-Z]+)(: .+)?");
    private static final int MOST_CALLS = 512;
    private static boolean failed = false;

    private ReadmeTest() { }

    private static void fail(String why) {
        failed = true;
        System.out.println(why);
    }

    /** The lines in fences of a language, at their places; lines elsewhere are empty. */
    private static List<String> fenced(List<String> readme, String language) {
        List<String> found = new ArrayList<>();
        String open = "";
        for (String line : readme) {
            boolean fence = line.startsWith("```");
            found.add(!fence && open.equals(language) ? line.strip() : "");
            if (fence) open = open.isEmpty() ? line.substring(3) : "";
        }
        if (!open.isEmpty()) fail("README.md: a fence is not closed");
        return found;
    }

    /** The program that README.md shows, each answer compared with the one that it tells. */
    private static String program(List<String> lines, Set<String> names) {
        StringBuilder s = new StringBuilder("public final class ReadmeRun {\n");
        s.append("private static int wrong = 0;\n");
        s.append("private static void due(int line, long got, long want) {\n");
        s.append("if (got != want) { wrong++; System.out.println(\"README.md:\" + line + \": answered \"");
        s.append(" + got + \", it says \" + want); }\n}\n");
        s.append("public static int run() {\n");
        for (int i = 0; i < lines.size(); i++) {
            String line = lines.get(i);
            Matcher m = SHOWN.matcher(line);
            if (NEW.matcher(line).matches()) {
                s.append(line).append('\n');
            } else if (m.matches()) {
                names.add(m.group(4));
                boolean kept = m.group(1) != null;
                if (kept) s.append(m.group(1)).append(m.group(3)).append(";\n");
                s.append("due(").append(i + 1).append(", ").append(kept ? m.group(2) : m.group(3)).append(", ");
                s.append(answer(m.group(5))).append(");\n");
            } else if (!line.isEmpty() && !line.startsWith("//")) {
                fail("README.md:" + (i + 1) + ": no call with its answer: " + line);
            }
        }
        return s.append("return wrong;\n}\n}\n").toString();
    }

    private static String answer(String told) {
        return Character.isLetter(told.charAt(0)) ? "CrewPairings." + told : told + "L";
    }

    private static void run(String program) throws IOException, ReflectiveOperationException {
        JavaCompiler compiler = ToolProvider.getSystemJavaCompiler();
        if (compiler == null) {
            fail("no compiler for the lines of README.md");
            return;
        }
        Path out = Files.createTempDirectory("readme");
        try {
            Path source = Files.writeString(out.resolve("ReadmeRun.java"), program);
            int refused = compiler.run(null, null, null, "-cp", System.getProperty("java.class.path"),
                    "-d", out.toString(), source.toString());
            if (refused != 0) {
                fail("README.md: its lines of Java can't be compiled");
                return;
            }
            try (URLClassLoader loader = new URLClassLoader(new URL[] {out.toUri().toURL()})) {
                int wrong = (int) loader.loadClass("ReadmeRun").getMethod("run").invoke(null);
                if (wrong != 0) fail("README.md: " + wrong + " answers are otherwise");
            }
        } finally {
            delete(out);
        }
    }

    private static void delete(Path directory) throws IOException {
        try (Stream<Path> all = Files.walk(directory)) {
            for (Path p : all.sorted(Comparator.reverseOrder()).toList()) {
                Files.delete(p);
            }
        }
    }

    /** The whole face is shown: each call and each constant. */
    private static void whole(Set<String> shown) {
        Set<String> face = new TreeSet<>();
        for (Method m : CrewPairings.class.getDeclaredMethods()) {
            if (Modifier.isPublic(m.getModifiers())) face.add(m.getName());
        }
        Stream.of(CrewPairings.class.getFields()).forEach(f -> face.add(f.getName()));
        face.removeAll(shown);
        if (!face.isEmpty()) fail("README.md does not show " + face);
    }

    /** The tests that the list names are those that stand in src/test/java. */
    private static void listOfTests(String readme) throws IOException {
        Set<String> named = Pattern.compile("(?m)^- `(\\w+Test)`").matcher(readme).results()
                .map(m -> m.group(1)).collect(Collectors.toCollection(TreeSet::new));
        Set<String> there = new TreeSet<>();
        try (Stream<Path> all = Files.list(TESTS)) {
            all.map(p -> p.getFileName().toString()).filter(n -> n.endsWith("Test.java"))
                    .forEach(n -> there.add(n.replace(".java", "")));
        }
        if (!named.equals(there)) fail("README.md names the tests " + named + ", there are " + there);
    }

    /** The one command that README.md gives for the tests is there and can be run. */
    private static void command(List<String> lines) {
        List<String> told = fenced(lines, "sh").stream().filter(l -> !l.isEmpty()).toList();
        if (!told.equals(List.of(".ci/run"))) fail("README.md tells the commands " + told);
        if (!Files.isExecutable(Path.of(".ci/run"))) fail(".ci/run can't be run");
    }

    /** What README.md names by a path stands there. */
    private static void paths(String readme) {
        Matcher m = Pattern.compile("`((?:src|\\.\\./shared|\\.ci)/[\\w./]+)`").matcher(readme);
        while (m.find()) {
            if (!Files.exists(Path.of(m.group(1)))) fail("README.md names " + m.group(1) + ", which is not there");
        }
    }

    public static void main(String[] args) throws IOException, ReflectiveOperationException {
        List<String> lines = Files.readAllLines(README);
        String readme = String.join("\n", lines);
        List<String> java = fenced(lines, "java");
        Set<String> names = new TreeSet<>();
        String program = program(java, names);
        run(program);
        whole(names);
        long calls = java.stream().filter(l -> l.startsWith("x.")).count();
        if (calls > MOST_CALLS) fail("README.md shows " + calls + " calls of one object");
        listOfTests(readme);
        command(lines);
        paths(readme);
        System.out.println(failed ? "README.md says what is not so" : calls + " calls of README.md are answered as it says");
        if (failed) System.exit(1);
    }
}
