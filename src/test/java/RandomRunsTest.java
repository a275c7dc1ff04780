import java.lang.reflect.Method;
import java.util.ArrayList;
import java.util.Arrays;
import java.util.List;
import java.util.Random;

/** Runs of calls, drawn by fixed seeds, on the class and on the Reference: all answers are alike. */
public final class RandomRunsTest {
    private static final int RUNS = Integer.getInteger("runs", 400);
    private static final int CALLS = 110;
    private static final String[] FACE = {"fly", "drop", "of", "shift", "kind", "told", "taken", "base", "fee",
        "mark", "follows", "pairing", "pairings", "had", "best", "bestOf", "bound", "price", "branch", "tree",
        "proves", "labels", "way", "late", "worst", "drawn", "chance", "feed", "text", "tells", "film", "load",
        "image", "back", "count", "sheet", "put", "item", "copy"};

    private final Random random;
    private final CrewPairings x = new CrewPairings();
    private final Reference y = new Reference();
    private final List<String> log = new ArrayList<>();
    private boolean wrong = false;

    private RandomRunsTest(long seed) {
        random = new Random(seed);
    }

    private long call(String name, long... args) {
        long got = invoke(x, name, args);
        long want = invoke(y, name, args);
        log.add(name + Arrays.toString(args) + " -> " + got);
        if (got != want) {
            wrong = true;
            System.out.println("answered " + got + ", due is " + want + " in:");
            log.forEach(System.out::println);
        }
        return got;
    }

    private static long invoke(Object on, String name, long[] args) {
        try {
            for (Method m : on.getClass().getDeclaredMethods()) {
                if (!m.getName().equals(name)) continue;
                return invoke(on, m, args);
            }
        } catch (ReflectiveOperationException e) {
            throw new IllegalStateException(name + Arrays.toString(args), e);
        }
        throw new IllegalStateException(name);
    }

    private static long invoke(Object on, Method m, long[] args) throws ReflectiveOperationException {
        Class<?>[] types = m.getParameterTypes();
        Object[] boxed = new Object[types.length];
        for (int i = 0; i < types.length; i++) {
            if (types[i] == int[].class) {
                int from = i;
                boxed[i] = Arrays.stream(args).skip(from).mapToInt(v -> (int) v).toArray();
            } else if (types[i] == long.class) {
                boxed[i] = args[i];
            } else {
                boxed[i] = (int) args[i];
            }
        }
        m.setAccessible(true);
        return ((Number) m.invoke(on, boxed)).longValue();
    }

    private int draw(int low, int high) {
        if (random.nextInt(40) == 0) {
            int[] odd = {low - 1, high + 1, Integer.MIN_VALUE, Integer.MAX_VALUE, -1, 0};
            return odd[random.nextInt(odd.length)];
        }
        return low + random.nextInt(high - low + 1);
    }

    private int flight() {
        return draw(0, Math.max(0, y.count(0) - 1));
    }

    private int set() {
        return draw(1, Math.max(1, (1 << Math.max(0, y.count(0))) - 1));
    }

    /** Flights that hang together, so that there are pairings and often a cover. */
    private void weave() {
        int flights = 2 + random.nextInt(6);
        int airports = 2 + random.nextInt(2);
        int at = 0;
        int time = random.nextInt(20);
        for (int i = 0; i < flights; i++) {
            if (random.nextInt(4) == 0) {
                at = random.nextInt(airports);
                time = Math.max(0, time - 10 - random.nextInt(30));
            }
            int to = i == flights - 1 && at != 0 ? 0 : random.nextInt(airports);
            if (to == at) to = (at + 1) % airports;
            int dep = Math.min(time, 280);
            int arr = Math.min(dep + 3 + random.nextInt(9), 299);
            call("fly", at, to, dep, arr);
            at = to;
            time = arr + (random.nextInt(3) == 0 ? 15 + random.nextInt(12) : 1 + random.nextInt(7));
        }
    }

    /** Out and back flights at like times: many ways to join them, so that bounds are fractions. */
    private void weaveFan() {
        call("base", 1 + 2 * random.nextInt(8));
        int out = 2 + random.nextInt(3);
        int t = random.nextInt(20);
        for (int i = 0; i < out; i++) {
            int d = t + random.nextInt(12);
            call("fly", 0, 1, d, d + 3 + random.nextInt(4));
        }
        for (int i = 0; i < 7 - out; i++) {
            int d = t + 8 + random.nextInt(20);
            call("fly", 1, 0, d, d + 3 + random.nextInt(4));
        }
        for (int a = 0; a < 2; a++) {
            call("kind", a, 2 + 2 * random.nextInt(2), random.nextInt(10));
        }
    }

    private void weaveFound() {
        for (String clause : Plans.FOUND[random.nextInt(Plans.FOUND.length)].split(";")) {
            String[] words = clause.split(" ");
            call(words[0], Arrays.stream(words).skip(1).mapToLong(Long::parseLong).toArray());
        }
        if (random.nextBoolean()) call("fee", 0, random.nextInt(100));
        if (random.nextBoolean()) call("fee", 1, random.nextInt(10));
    }

    private void fill(int sheet, int size, int low, int high) {
        call("sheet", sheet, random.nextInt(2), size);
        for (int i = 0; i < size; i++) {
            call("put", sheet, i, low + random.nextInt(high - low + 1));
        }
    }

    private void tellPrices() {
        int sheet = random.nextInt(4);
        fill(sheet, Math.max(0, y.count(0)), random.nextBoolean() ? 0 : -20, 60);
        for (int what = 0; what < 2; what++) {
            call("labels", sheet, what);
            call("proves", sheet, 1 + random.nextInt(5), what);
        }
        call("way", sheet);
    }

    /** The prices of the bound, told in n-ths: they prove it. */
    private void tellBound() {
        int sheet = random.nextInt(4);
        int size = y.count(0);
        long all = 1;
        for (int f = 0; f < size; f++) {
            long below = call("price", f, 1);
            if (below < 1) return;
            all = Math.max(all, below);
        }
        call("sheet", sheet, 0, size);
        for (int f = 0; f < size; f++) {
            call("put", sheet, f, call("price", f, 0) * all / call("price", f, 1));
        }
        call("proves", sheet, all, 0);
        call("proves", sheet, all, 1);
        call("way", sheet);
    }

    private void tellSets() {
        int sheet = random.nextInt(4);
        if (random.nextBoolean()) {
            call("film", sheet);
            if (random.nextBoolean()) call("put", sheet, draw(0, 3), set());
        } else {
            fill(sheet, random.nextInt(8), 0, Math.max(1, (1 << y.count(0)) - 1));
        }
        for (int what = 0; what < 3; what++) {
            call("tells", sheet, what);
        }
    }

    private String clause() {
        int a = draw(0, 3);
        int b = draw(0, 3);
        String[] all = {"fly " + a + " " + b + " " + draw(0, 40) + " " + draw(41, 80),
            "kind " + a + " " + draw(0, 5) + "\n" + draw(0, 9), "base" + draw(0, 15),
            "fee " + draw(0, 4) + " " + draw(0, 20), "must " + a + " " + b, "not " + a + " " + b,
            "free " + a + " " + b, "fly 0 1 2", "kin 1 2 3", "base 1000", "fee 1 , 2", "base 1 2"};
        return all[random.nextInt(random.nextInt(4) == 0 ? all.length : 7)];
    }

    private void tellText() {
        StringBuilder s = new StringBuilder(clause());
        for (int i = random.nextInt(4); i > 0; i--) {
            s.append(random.nextBoolean() ? " ; " : ";").append(clause());
        }
        if (random.nextInt(5) == 0) s.setCharAt(random.nextInt(s.length()), (char) random.nextInt(128));
        if (random.nextInt(6) == 0) s.append(random.nextBoolean() ? " " : ";");
        for (int at = 0; at < s.length(); at += 5) {
            int n = Math.min(5, s.length() - at);
            long[] args = new long[6];
            args[0] = n;
            for (int i = 0; i < n; i++) {
                args[1 + i] = s.charAt(at + i);
            }
            call("feed", args);
        }
        call("text");
    }

    private void load() {
        int sheet = random.nextInt(4);
        fill(sheet, 4 * random.nextInt(5) + random.nextInt(2), 0, 3);
        for (int i = 0; i < 16; i++) {
            if (i % 4 >= 2) call("put", sheet, i, (i % 4 - 2) * 30 + draw(0, 29) + (random.nextInt(8) == 0 ? 1L << 40 : 0));
        }
        call("load", sheet, draw(0, 1), draw(0, 2), draw(0, 5));
    }

    private void one() {
        int n = random.nextInt(39);
        String name = FACE[n];
        switch (name) {
            case "fly" -> call(name, draw(0, 3), draw(0, 3), draw(0, 150), draw(100, 299));
            case "drop" -> { if (random.nextInt(3) == 0) call(name); }
            case "of" -> call(name, flight(), draw(0, 6));
            case "shift" -> { int d = draw(0, 120); call(name, flight(), d, d + draw(1, 12)); }
            case "kind" -> call(name, draw(0, 3), draw(0, 5), draw(0, 9));
            case "told" -> call(name, draw(0, 3), draw(0, 6));
            case "taken" -> call(name, draw(0, 3), draw(0, 5));
            case "base" -> call(name, draw(0, 15) | 1);
            case "fee" -> { int w = draw(0, 4); call(name, w, draw(0, w == 1 ? 9 : 20)); }
            case "mark" -> call(name, flight(), flight(), random.nextInt(3) == 0 ? draw(0, 2) : 0);
            case "follows" -> call(name, flight(), flight());
            case "pairing" -> call(name, set(), draw(0, 3));
            case "pairings" -> call(name, draw(-1, 12));
            case "had" -> call(name, set(), draw(0, 1));
            case "best", "tells" -> { if (n == 14) call(name, draw(0, 2)); else tellSets(); }
            case "bestOf" -> call(name, flight(), draw(0, 1));
            case "bound", "worst" -> call(name, n == 16 ? draw(0, 1) : draw(0, 99));
            case "price" -> call(name, flight(), draw(0, 1));
            case "branch" -> call(name, flight(), flight(), draw(1, 2), draw(0, 1));
            case "tree" -> { call(name, 0); call(name, draw(0, 1)); }
            case "proves" -> { if (random.nextBoolean()) tellBound(); else call(name, draw(0, 3), draw(1, 99), draw(0, 1)); }
            case "labels", "way" -> tellPrices();
            case "late" -> call(name, flight(), draw(0, 99), draw(0, 1));
            case "drawn" -> call(name, random.nextInt(), draw(1, 99));
            case "chance" -> call(name, random.nextInt(), draw(1, 20), draw(1, 30), draw(0, 150), draw(0, 1));
            case "feed" -> call(name, draw(1, 5), draw(0, 255), draw(0, 255), draw(0, 255), draw(0, 255), draw(0, 255));
            case "text" -> tellText();
            case "film" -> call(name, draw(0, 3));
            case "load" -> load();
            case "image", "back" -> { if (random.nextInt(2) == 0) call(name); }
            case "count" -> call(name, random.nextBoolean() ? draw(0, 5) : draw(10, 14));
            case "sheet" -> call(name, draw(0, 3), draw(-1, 1), draw(0, 40));
            case "put" -> call(name, draw(0, 3), draw(0, 12), random.nextLong());
            case "item" -> call(name, draw(0, 3), draw(0, 12));
            default -> call(name, draw(0, 3), draw(0, 6), draw(0, 3), draw(0, 6), draw(0, 6));
        }
    }

    private void ask() {
        for (int what = 0; what < 3; what++) {
            call("best", what);
        }
        for (int part = 0; part < 2; part++) {
            call("bound", part);
            call("tree", part);
            for (int f = 0; f < y.count(0); f++) {
                call("price", f, part);
                call("bestOf", f, part);
            }
        }
        call("pairings", -1);
        call("count", 3);
        call("count", 4);
    }

    private boolean run() {
        switch (random.nextInt(5)) {
            case 0 -> weaveFound();
            case 1, 2 -> weaveFan();
            default -> weave();
        }
        if (random.nextInt(3) == 0) call("fee", 3, random.nextInt(6));
        ask();
        for (int i = 0; i < CALLS && log.size() < 460 && !wrong; i++) {
            one();
        }
        if (!wrong && log.size() < 450) ask();
        return !wrong;
    }

    public static void main(String[] args) {
        int dear = 0;
        int fractions = 0;
        int bigTrees = 0;
        int covers = 0;
        for (int seed = 0; seed < RUNS; seed++) {
            RandomRunsTest t = new RandomRunsTest(seed);
            if (!t.run()) {
                System.out.println("seed " + seed);
                System.exit(1);
            }
            for (String s : t.log) {
                if (s.startsWith("tree") && s.endsWith("> -5")) dear++;
                if (s.startsWith("tree[0]") && !s.endsWith("> 1") && !s.endsWith("> -5")) bigTrees++;
                if (s.startsWith("bound[1]") && !s.endsWith("> 1") && !s.endsWith("808")) fractions++;
                if (s.startsWith("best[0]") && !s.endsWith("> -1")) covers++;
            }
        }
        System.out.println(RUNS + " runs are alike; covers " + covers + ", bounds that are fractions " + fractions
                + ", trees of more nodes " + bigTrees + ", dear trees " + dear);
        if (RUNS >= 400 && (covers == 0 || fractions == 0 || bigTrees == 0 || dear == 0)) {
            System.out.println("the runs are too tame to show anything");
            System.exit(1);
        }
    }
}
