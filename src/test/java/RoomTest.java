import com.sun.management.ThreadMXBean;
import java.lang.management.ManagementFactory;
import java.lang.reflect.InvocationTargetException;
import java.lang.reflect.Method;
import java.lang.reflect.Modifier;

/** All calls of a run live in one room: what a new object and its calls make. And: no call ever throws. */
final class RoomTest {
    private static final int[] WILD = {Integer.MIN_VALUE, -2, -1, 0, 1, 2, 3, 5, 6, 40, 999, Integer.MAX_VALUE};
    private static final ThreadMXBean THREADS = (ThreadMXBean) ManagementFactory.getThreadMXBean();
    private static long answers = 0;

    public static void main(String[] args) throws IllegalAccessException {
        whatANewObjectMakes();
        whatCallsMake();
        whatTextsMake();
        wildArguments();
        Checks.finish("RoomTest");
    }

    private static long made() {
        return THREADS.getThreadAllocatedBytes(Thread.currentThread().getId());
    }

    /** Six people, ten wrongs that all saw, a law of many signs, an image, and sheets that tell of all. */
    private static DrumOfGuilt aFullObject() {
        DrumOfGuilt x = Checks.people(1, 12, 23, 34, 45, 56);
        Checks.law(x, "weight+shared*seen-day", "(pride<more)+1", "weight or more and not seen");
        for (int k = 0; k < 10; k++) {
            x.wrong(1 << k % 6, 1 + k % 9, 63 & ~(1 << k % 6));
        }
        x.image();
        for (int s = 0; s < 4; s++) {
            x.film(s);
        }
        return x;
    }

    private static void whatANewObjectMakes() {
        long bytes = 0;
        // The first rounds make what the Java machine needs to begin with.
        for (int round = 0; round < 3; round++) {
            long before = made();
            new DrumOfGuilt();
            bytes = made() - before;
        }
        // Some 4 bytes an element, 16 a row: below 3000 elements and rows.
        Checks.due("a new object makes " + bytes + " bytes", bytes < 12000 ? 1 : 0, 1);
    }

    private static void whatCallsMake() {
        long bytes = 0;
        for (int round = 0; round < 3; round++) {
            bytes = 0;
            for (int i = 0; i < 20; i++) {
                DrumOfGuilt x = aFullObject();
                long before = made();
                callAll(x, i);
                callAll(x, i + 20);
                bytes += made() - before;
            }
        }
        Checks.due("bytes that calls make", bytes, 0);
    }

    private static void callAll(DrumOfGuilt x, int i) {
        for (int p = 0; p < 6; p++) {
            answers += x.best(p, 0) + x.few(p) + x.hire(p, 1) + x.dusk(p, 3) + x.told(p, 4);
            answers += x.guess(p, i, 0) + x.likely(p, i, 3, 0) + x.share(p, 1) + x.odds(i, 40, p, 0);
            answers += x.kinds(0, p, 0) + x.prides(0, p, 0) + x.taken(p, 0) + x.asks(0, p, 0);
        }
        answers += x.away(0) + x.undone(0) + x.pair(0) + x.town(1) + x.drawn(i, 0) + x.whose(0, 3, 0) + x.laws(0);
        answers += x.judge(0) + x.film(1) + x.sheet(2, 1, 40) + x.cell(2, 1, 1) + x.copy(2, 0, 2, 1, 9);
        answers += x.peopleBy(2, 1, 0, 6) + x.image() + x.night() + x.back() + x.force(0) + x.force(1);
    }

    private static void whatTextsMake() {
        DrumOfGuilt x = new DrumOfGuilt();
        long bytes = 0;
        for (int round = 0; round < 3; round++) {
            long before = made();
            for (int i = 0; i < 100; i++) {
                answers += x.feed(5, 's', 't', 'r', 'o', 'k') + x.text();
            }
            bytes = made() - before;
        }
        Checks.due("bytes that faults make", bytes, 0);
    }

    private static void wildArguments() throws IllegalAccessException {
        for (Method method : DrumOfGuilt.class.getDeclaredMethods()) {
            if (Modifier.isPublic(method.getModifiers())) {
                int thrown = 0;
                thrown += wildArguments(method, new DrumOfGuilt());
                thrown += wildArguments(method, Checks.people(10));
                thrown += wildArguments(method, aFullObject());
                Checks.due(method + " throws", thrown, 0);
            }
        }
    }

    private static int wildArguments(Method method, DrumOfGuilt x) throws IllegalAccessException {
        int takes = method.getParameterCount();
        int thrown = 0;
        int ways = (int) Math.min(30000, Math.pow(WILD.length, takes));
        for (int way = 0; way < ways; way++) {
            Object[] given = new Object[takes];
            // The step is prime to WILD.length, so that all places vary though not all ways are gone.
            long rest = takes > 4 ? way * 1000003L : way;
            for (int i = 0; i < takes; i++) {
                given[i] = WILD[(int) (rest % WILD.length)];
                rest /= WILD.length;
            }
            try {
                method.invoke(x, given);
            } catch (InvocationTargetException exception) {
                System.out.println(method.getName() + java.util.Arrays.toString(given) + " threw " + exception.getCause());
                thrown++;
            }
        }
        return thrown;
    }
}
