import java.lang.management.ManagementFactory;
import java.lang.reflect.InvocationTargetException;
import java.lang.reflect.Method;
import java.lang.reflect.Modifier;
import java.util.ArrayList;
import java.util.Comparator;
import java.util.List;
import java.util.Random;

/** No call ever throws, whatever its arguments; and calls make next to no objects. */
public final class WildCallsTest {
    private static final Due DUE = new Due();
    private static final int[] EDGES = {
        Integer.MIN_VALUE, Integer.MIN_VALUE + 1, -1000000, -101, -100, -99, -13, -12, -10, -5, -4, -3, -2, -1, 0, 1,
        2, 3, 4, 5, 6, 7, 8, 9, 10, 11, 12, 13, 14, 15, 16, 31, 32, 33, 60, 61, 64, 111, 127, 128, 150, 321, 65535,
        65536, 999999, 1000000, 123123, 111111111, 333333333, 333333334, 1111111111, Integer.MAX_VALUE - 1, Integer.MAX_VALUE
    };

    private WildCallsTest() {
    }

    public static void main(String[] args) throws Exception {
        List<Method> face = face();
        for (int seed = 0; seed < 300; seed++) {
            wildRun(face, new Random(seed));
        }
        room();
        DUE.end();
    }

    private static List<Method> face() {
        List<Method> face = new ArrayList<>();
        for (Method m : SmallCrown.class.getDeclaredMethods()) {
            if (Modifier.isPublic(m.getModifiers())) {
                face.add(m);
            }
        }
        // The machine hands methods out in no order of its own.
        face.sort(Comparator.comparing(Method::getName));
        return face;
    }

    private static void wildRun(List<Method> face, Random random) throws IllegalAccessException {
        SmallCrown x = new SmallCrown();
        boolean tame = random.nextBoolean();
        for (int i = 0; i < 1500; i++) {
            Method m = face.get(random.nextInt(face.size()));
            Object[] args = new Object[m.getParameterCount()];
            for (int a = 0; a < args.length; a++) {
                args[a] = tame && random.nextInt(8) != 0 ? random.nextInt(4) : EDGES[random.nextInt(EDGES.length)];
            }
            boolean threw = false;
            try {
                m.invoke(x, args);
            } catch (InvocationTargetException e) {
                threw = true;
                System.out.println(m.getName() + " threw " + e.getCause());
            }
            DUE.holds(m.getName() + " does not throw", !threw);
        }
    }

    /** 512 of the dearest calls stay far below the room that all calls of a run share. */
    private static void room() {
        com.sun.management.ThreadMXBean threads = (com.sun.management.ThreadMXBean) ManagementFactory.getThreadMXBean();
        long id = Thread.currentThread().getId();
        dearCalls(8);
        long before = threads.getThreadAllocatedBytes(id);
        dearCalls(64);
        long made = threads.getThreadAllocatedBytes(id) - before;
        DUE.holds("512 calls made " + made + " bytes", made < 100000);
    }

    private static void dearCalls(int rounds) {
        SmallCrown x = new SmallCrown();
        x.road(15, 12);
        x.head(4, 1);
        x.note(0, 0, 333, -1);
        for (int i = 0; i < rounds; i++) {
            x.image(i % 2);
            x.from(i % 2);
            x.soonest(0, 0, 4);
            x.sure(0, 0, 3);
            x.flat(0, 0);
            x.bowl(0);
            x.pigeons(0, 1, 5);
            x.crowned(0, i, 60);
        }
    }
}
