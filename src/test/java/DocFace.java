import java.lang.reflect.Method;
import java.lang.reflect.Modifier;
import java.util.Arrays;
import java.util.stream.Collectors;

/** The document from its first line to "The public face". */
final class DocFace {
    private static final String[] CALLS = {
        "public int fly(int from, int to, int dep, int arr);",
        "public int drop();",
        "public int of(int flight, int what);",
        "public int shift(int flight, int dep, int arr);",
        "public int kind(int airport, int kind, int figure);",
        "public int told(int airport, int what);",
        "public int taken(int airport, int k);",
        "public int base(int bases);",
        "public int fee(int which, int v);",
        "public int mark(int f, int g, int m);",
        "public int follows(int f, int g);",
        "public int pairing(int set, int what);",
        "public int pairings(int k);",
        "public int had(int set, int what);",
        "public int best(int what);",
        "public int bestOf(int flight, int what);",
        "public long bound(int part);",
        "public long price(int flight, int part);",
        "public long branch(int f, int g, int m, int part);",
        "public int tree(int what);",
        "public int proves(int sheet, int n, int what);",
        "public int labels(int sheet, int what);",
        "public long way(int sheet);",
        "public int late(int flight, int d, int what);",
        "public int worst(int d);",
        "public int drawn(int seed, int n);",
        "public int chance(int seed, int m, int n, int w, int part);",
        "public int feed(int n, int a, int b, int c, int d, int e);",
        "public int text();",
        "public int tells(int sheet, int what);",
        "public int film(int sheet);",
        "public int load(int sheet, int sort, int from, int n);",
        "public int image();",
        "public int back();",
        "public int count(int what);",
        "public int sheet(int sheet, int sort, int n);",
        "public int put(int sheet, int i, long v);",
        "public long item(int sheet, int i);",
        "public int copy(int sheet, int i, int other, int j, int n);"};

    private DocFace() { }

    static void run() {
        callsOfAnObject();
        constants();
        calls();
    }

    private static void callsOfAnObject() {
        Doc.says("head", "An object is used for at most 512 calls after it has been made; what later calls answer is free.");
        CrewPairings x = Plans.calm();
        // 2 calls were made; 510 more: the last of them, too, is answered as due
        int duty = 10;
        for (int i = 0; i < 255; i++) {
            Doc.due(x.fee(0, i % 100), duty);
            duty = i % 100;
            Doc.due(i % 2 == 0 ? x.pairing(3, 0) : x.price(0, 0), 25 + duty);
        }
    }

    private static void constants() {
        Doc.says("face", "public final class CrewPairings {");
        Doc.due(CrewPairings.class.getModifiers(), Modifier.PUBLIC | Modifier.FINAL);
        Doc.due(CrewPairings.class.getPackageName().length(), 0);
        Doc.says("face", "public static final int NONE = -1, BAD = -2, STATE = -3, FULL = -4, DEAR = -5;");
        Doc.due(CrewPairings.NONE, -1);
        Doc.due(CrewPairings.BAD, -2);
        Doc.due(CrewPairings.STATE, -3);
        Doc.due(CrewPairings.FULL, -4);
        Doc.due(CrewPairings.DEAR, -5);
        Doc.says("face", "public static final long NO = Long.MIN_VALUE;");
        Doc.due(CrewPairings.NO, Long.MIN_VALUE);
        Doc.due(CrewPairings.class.getFields().length, 6);
        Doc.says("face", "public CrewPairings();");
        Doc.due(CrewPairings.class.getDeclaredConstructors().length, 1);
        Doc.due(CrewPairings.class.getConstructors()[0].getParameterCount(), 0);
    }

    private static void calls() {
        for (String call : CALLS) {
            Doc.says("face", call);
            Doc.due(Arrays.stream(CrewPairings.class.getDeclaredMethods())
                    .filter(m -> call.replaceAll("(int|long) \\w+(?=[,)])", "$1").equals(signature(m))).count(), 1);
        }
        Doc.says("face", "}");
        Doc.due(Arrays.stream(CrewPairings.class.getDeclaredMethods())
                .filter(m -> !Modifier.isPrivate(m.getModifiers())).count(), CALLS.length);
    }

    private static String signature(Method m) {
        String types = Arrays.stream(m.getParameterTypes()).map(Class::getName).collect(Collectors.joining(", "));
        return Modifier.toString(m.getModifiers()) + " " + m.getReturnType().getName() + " " + m.getName()
                + "(" + types + ");";
    }
}
