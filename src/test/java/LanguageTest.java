import java.io.IOException;
import java.lang.reflect.Field;
import java.lang.reflect.Member;
import java.lang.reflect.Modifier;
import java.nio.file.Files;
import java.nio.file.Path;
import java.util.ArrayList;
import java.util.HashSet;
import java.util.List;
import java.util.Set;
import java.util.regex.Matcher;
import java.util.regex.Pattern;

/** The rules of LANGUAGE.md that a search in the text can see. */
public final class LanguageTest {
    private static final Path SOURCE = Path.of("src/main/java/CrewPairings.java");
    private static final Pattern METHOD = Pattern.compile(
            "^\\s*((?:(?:public|private|static|final)\\s+)*)[A-Za-z\\[\\]<>]+\\s+(\\w+)\\(([^)]*)\\)\\s*\\{\\s*$");
    private static boolean failed = false;

    private static void fail(int rule, String why) {
        failed = true;
        System.out.println("rule " + rule + ": " + why);
    }

    private static String withoutComments(String s) {
        return s.replaceAll("(?s)/\\*.*?\\*/", "").replaceAll("//[^\n]*", "");
    }

    private static void forbid(String code, int rule, String... words) {
        for (String w : words) {
            Matcher m = Pattern.compile(w).matcher(code);
            if (m.find()) fail(rule, "'" + m.group() + "' stands in the program");
        }
    }

    private static void imports(String code) {
        Matcher m = Pattern.compile("import\\s+([\\w.*]+);").matcher(code);
        while (m.find()) {
            if (!Set.of("java.util.Arrays", "java.util.ArrayList", "java.util.List").contains(m.group(1))) {
                fail(4, m.group(1));
            }
        }
    }

    private static void methods(List<String> lines) {
        Set<String> open = new HashSet<>();
        Set<String> other = new HashSet<>();
        for (int i = 0; i < lines.size(); i++) {
            Matcher m = METHOD.matcher(lines.get(i));
            if (!m.matches() || lines.get(i).contains("else ") || lines.get(i).contains("return ")) continue;
            String indent = lines.get(i).replaceAll("\\S.*", "");
            int end = i;
            while (!lines.get(end).equals(indent + "}")) end++;
            if (end - i + 1 > 60) fail(11, m.group(2) + " has " + (end - i + 1) + " lines");
            if (m.group(3).split(",").length > 7) fail(11, m.group(2) + " takes too many");
            (m.group(1).contains("public") ? open : other).add(m.group(2));
        }
        if (open.size() != 39) fail(1, open.size() + " public methods were seen");
        other.retainAll(open);
        if (!other.isEmpty()) fail(1, "names of public methods: " + other);
    }

    private static void members() {
        List<Class<?>> all = new ArrayList<>(List.of(CrewPairings.class.getDeclaredClasses()));
        all.add(CrewPairings.class);
        if (all.size() > 12) fail(11, all.size() + " classes");
        for (Class<?> c : all) {
            int found = 0;
            for (Field f : c.getDeclaredFields()) {
                int how = f.getModifiers();
                if (!Modifier.isStatic(how)) found++;
                if (Modifier.isStatic(how) && !Modifier.isFinal(how)) fail(5, f.toString());
            }
            if (found > 20) fail(11, c + " has " + found + " fields");
            if (c != CrewPairings.class && !Modifier.isStatic(c.getModifiers())) fail(2, c.toString());
        }
        List<Member> outer = new ArrayList<>(List.of(CrewPairings.class.getDeclaredMethods()));
        outer.addAll(List.of(CrewPairings.class.getDeclaredFields()));
        for (Member m : outer) {
            if (!Modifier.isPublic(m.getModifiers()) && !Modifier.isPrivate(m.getModifiers())) fail(1, m.toString());
        }
    }

    public static void main(String[] args) throws IOException {
        String code = withoutComments(Files.readString(SOURCE));
        List<String> lines = code.lines().toList();
        forbid(code, 1, "(?m)^package\\b", "\\bprotected\\b");
        forbid(code, 2, "->", "::", "new \\w+\\([^)]*\\)\\s*\\{");
        forbid(code, 3, "\\bdouble\\b", "\\bfloat\\b", "\\bObject\\b", "\\bMap\\b", "\\bSet<");
        forbid(code, 4, "Exact\\(", "String\\.(format|valueOf|join)", "System\\.(?!arraycopy)");
        forbid(code, 5, "static\\s*\\{", "(?m)^\\s*(private |public )?static (?!final )(int|long|boolean)(\\[\\])? \\w+( =|;)");
        forbid(code, 6, "\\bthrow\\b", "\\btry\\b", "\\bcatch\\b", "\\bsynchronized\\b", "\\bassert\\b",
                "\\bhashCode\\b", "\\btoString\\b");
        forbid(code, 9, "while \\(true\\)", "for \\(;;");
        forbid(code, 13, "\\bRandom\\b", "\\bThread\\b", "currentTimeMillis", "nanoTime");
        imports(code);
        methods(lines);
        members();
        if (!Files.readString(SOURCE).chars().allMatch(c -> c == 10 || (c >= 32 && c < 127))) fail(3, "odd signs");
        System.out.println(failed ? "rules are broken" : "no rule is seen broken");
        if (failed) System.exit(1);
    }
}
