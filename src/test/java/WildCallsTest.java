import java.lang.management.ManagementFactory;
import java.lang.reflect.Constructor;
import java.lang.reflect.Method;
import java.lang.reflect.Modifier;
import java.util.ArrayList;
import java.util.Arrays;
import java.util.Comparator;
import java.util.List;
import java.util.Random;

/** Any arguments in any state are answered, twice the same; calls make nothing. */
public final class WildCallsTest {
    private static final int RUNS = Integer.getInteger("runs", 3000);
    private static final int[] ODD = {Integer.MIN_VALUE, Integer.MAX_VALUE, -1, -2, 0, 1, 2, 3, 4, 5, 7, 39, 40, 41,
        60, 99, 100, 127, 128, 255, 256, 299, 300, 9999, Integer.MAX_VALUE - 3, Integer.MIN_VALUE + 3};
    private static boolean failed = false;

    private static void fail(String why) {
        failed = true;
        System.out.println(why);
    }

    private static List<Method> face() {
        List<Method> all = new ArrayList<>();
        for (Method m : CrewPairings.class.getDeclaredMethods()) {
            if (Modifier.isPublic(m.getModifiers())) all.add(m);
        }
        all.sort(Comparator.comparing(Method::getName));
        return all;
    }

    private static Object[] draw(Method m, Random random, boolean tame) {
        Class<?>[] types = m.getParameterTypes();
        Object[] args = new Object[types.length];
        for (int i = 0; i < types.length; i++) {
            int v = tame ? random.nextInt(4) : random.nextInt(3) == 0 ? random.nextInt() : ODD[random.nextInt(ODD.length)];
            if (tame && random.nextInt(3) == 0) v = random.nextInt(128);
            if (types[i] == long.class) {
                args[i] = tame ? (long) v : random.nextLong();
            } else {
                args[i] = v;
            }
        }
        return args;
    }

    private static void wildRuns() throws ReflectiveOperationException {
        List<Method> face = face();
        if (face.size() != 39) fail("the face has " + face.size() + " calls");
        for (int run = 0; run < RUNS; run++) {
            Random random = new Random(run);
            CrewPairings x = new CrewPairings();
            CrewPairings y = new CrewPairings();
            for (int i = 0; i < 512; i++) {
                Method m = random.nextInt(4) == 0 ? CrewPairings.class.getMethod("fly", int.class, int.class, int.class, int.class)
                        : face.get(random.nextInt(face.size()));
                Object[] args = draw(m, random, random.nextInt(5) != 0);
                Object got = m.invoke(x, args);
                if (!got.equals(m.invoke(y, args))) fail("unlike answers of " + m.getName() + Arrays.toString(args));
            }
        }
    }

    private static CrewPairings busy() {
        CrewPairings x = new CrewPairings();
        x.base(3);
        x.kind(0, 4, 8);
        x.kind(1, 4, 2);
        x.fly(1, 0, 5, 8);
        x.fly(1, 0, 32, 37);
        x.fly(0, 1, 43, 44);
        x.fly(0, 1, 30, 31);
        x.fly(1, 0, 6, 8);
        x.fly(0, 1, 54, 56);
        x.fly(1, 0, 32, 37);
        return x;
    }

    /** The dearest calls, each after a change: what they make, in bytes, is next to nothing. */
    private static void room() {
        com.sun.management.ThreadMXBean bean = (com.sun.management.ThreadMXBean) ManagementFactory.getThreadMXBean();
        for (int round = 0; round < 3; round++) {
            CrewPairings x = busy();
            x.sheet(0, 0, 7);
            long before = bean.getThreadAllocatedBytes(Thread.currentThread().getId());
            for (int i = 0; i < 64; i++) {
                x.fee(0, i);
                x.tree(0);
                x.branch(0, 1, 2, 0);
                x.labels(0, 0);
                x.price(3, 0);
                x.chance(i, 20, 99, 100, 0);
                x.film(1);
                x.sheet(2, 0, 40);
            }
            long made = bean.getThreadAllocatedBytes(Thread.currentThread().getId()) - before;
            if (round == 2 && made > 20000) fail("512 calls made " + made + " bytes");
        }
    }

    private static void shape() throws ReflectiveOperationException {
        Constructor<?>[] makers = CrewPairings.class.getDeclaredConstructors();
        if (makers.length != 1 || makers[0].getParameterCount() != 0) fail("constructors");
        if (!Modifier.isFinal(CrewPairings.class.getModifiers())) fail("not final");
        if (CrewPairings.class.getFields().length != 6) fail("public constants");
        if (CrewPairings.class.getField("NO").getLong(null) != Long.MIN_VALUE) fail("NO");
    }

    public static void main(String[] args) throws ReflectiveOperationException {
        shape();
        wildRuns();
        room();
        System.out.println(failed ? "wild calls went wrong" : RUNS + " wild runs of 512 calls are answered");
        if (failed) System.exit(1);
    }
}
