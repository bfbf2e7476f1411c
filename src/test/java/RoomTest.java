import java.lang.management.ManagementFactory;
import java.lang.reflect.InvocationTargetException;
import java.lang.reflect.Method;
import java.lang.reflect.Modifier;
import java.util.ArrayList;
import java.util.Comparator;
import java.util.List;
import java.util.Random;

/** No call ever throws, whatever its arguments, and what a run makes stays far below the room that it has. */
public final class RoomTest {
    private static final int[] WILD = {Integer.MIN_VALUE, Integer.MIN_VALUE + 1, -10000, -7, -2, -1, 0, 1, 2, 3, 4, 5, 7,
        8, 9, 15, 16, 17, 20, 21, 40, 41, 63, 64, 65, 200, 299, 300, 301, 1000, 1001, 9999, 10000, 531440, 531441, 1048575,
        1048576, Integer.MAX_VALUE - 1, Integer.MAX_VALUE};
    private static final long MOST_BYTES = 6_000_000;

    private final Random draw;
    private final List<Method> methods = new ArrayList<>();

    private RoomTest(int seed) {
        draw = new Random(seed);
        for (Method m : CurveShelf.class.getDeclaredMethods()) {
            if (Modifier.isPublic(m.getModifiers())) {
                methods.add(m);
            }
        }
        methods.sort(Comparator.comparing(Method::getName));
    }

    public static void main(String[] args) throws ReflectiveOperationException {
        for (int seed = 0; seed < 300; seed++) {
            new RoomTest(seed).wildRun();
        }
        long wrappers = bytes();
        dearActs();
        dearAnswers();
        dearImages();
        Due.is("bytes are counted", wrappers > 0, true);
        Due.end();
    }

    private Object wild(Class<?> type, boolean tame) {
        int v = tame ? draw.nextInt(4) : WILD[draw.nextInt(WILD.length)];
        if (type == long.class) {
            long[] far = {Long.MIN_VALUE, Long.MAX_VALUE, 1L << 60, (1L << 60) - 1, v};
            return tame || draw.nextBoolean() ? (long) v : far[draw.nextInt(far.length)];
        }
        return v;
    }

    private void wildRun() throws ReflectiveOperationException {
        CurveShelf x = new CurveShelf();
        if (draw.nextInt(4) > 0) {
            x.curve(2, 3, 20, 0, 0);
            x.curve(draw.nextInt(3) + 1, 2, 1 + draw.nextInt(12), 0, 0);
            x.curve(4 * draw.nextInt(2), 2, 1 + draw.nextInt(20), 1 + draw.nextInt(20), 0);
            for (int s = 0; s < 4; s++) {
                x.shelf(s, s % 3);
                for (int i = 0; i < 7; i++) {
                    x.sow(s, 40, draw.nextInt());
                }
            }
        }
        for (int i = 0; i < 1500; i++) {
            Method m = methods.get(draw.nextInt(methods.size()));
            Object[] args = new Object[m.getParameterCount()];
            for (int a = 0; a < args.length; a++) {
                args[a] = wild(m.getParameterTypes()[a], draw.nextInt(3) > 0);
            }
            Due.is(m.getName() + " throws", throwsAt(x, m, args), false);
        }
    }

    private static boolean throwsAt(CurveShelf x, Method m, Object[] args) throws ReflectiveOperationException {
        try {
            m.invoke(x, args);
            return false;
        } catch (InvocationTargetException e) {
            e.getCause().printStackTrace(System.out);
            return true;
        }
    }

    private static long bytes() {
        com.sun.management.ThreadMXBean bean = (com.sun.management.ThreadMXBean) ManagementFactory.getThreadMXBean();
        return bean.getThreadAllocatedBytes(Thread.currentThread().getId());
    }

    private static CurveShelf crowded() {
        CurveShelf x = new CurveShelf();
        x.curve(2, 3, 20, 0, 0);
        x.shelf(0, 0);
        for (int i = 0; i < 7; i++) {
            x.sow(0, 40, i);
        }
        x.sow(0, 19, 9);
        return x;
    }

    private static void dearActs() {
        long before = bytes();
        CurveShelf x = crowded();
        for (int i = 0; i < 500; i++) {
            int k = i % 2 == 0 ? x.drop(0, i / 2) : x.sow(0, 1, i);
            x.move(0, 50 + i % 200, i, i, i);
        }
        Due.is("bytes of acts", bytes() - before < MOST_BYTES, true);
        before = bytes();
        CurveShelf y = new CurveShelf();
        y.curve(3, 3, 12, 0, 0);
        y.shelf(0, 0);
        for (int i = 0; i < 6; i++) {
            y.sow(0, 40, i);
        }
        for (int i = 0; i < 250; i++) {
            y.sow(0, 40, i);
            y.undo(0);
        }
        Due.is("bytes of sowing", bytes() - before < MOST_BYTES, true);
    }

    private static void dearAnswers() {
        long before = bytes();
        CurveShelf x = crowded();
        x.curve(2, 2, 20, 0, 0);
        x.low(3, 3, 3);
        x.high(1000000, 1000000, 1000000);
        for (int i = 0; i < 50; i++) {
            x.points(0);
            x.nearest(0, i, i, i, 2, 20);
            x.within(0, i, i, i, 0, Integer.MAX_VALUE);
            x.pairs(0, 2);
            x.witness(0, i, i, i, 2, 20);
            x.check(0, i, i, i, 2, 20);
            x.spans(0);
            x.jump(0, i);
            x.gap(0, i, 300);
            x.compare(1, 1, 64, 3, 5);
        }
        Due.is("bytes of answers", bytes() - before < MOST_BYTES / 10, true);
    }

    private static void dearImages() {
        long before = bytes();
        CurveShelf x = crowded();
        for (int i = 0; i < 250; i++) {
            x.image(i % 2);
            x.back(i % 2);
        }
        Due.is("bytes of images", bytes() - before < MOST_BYTES / 10, true);
    }
}
