import java.lang.management.ManagementFactory;
import java.lang.reflect.InvocationTargetException;
import java.lang.reflect.Method;
import java.lang.reflect.Modifier;
import java.util.ArrayList;
import java.util.Comparator;
import java.util.List;
import java.util.NoSuchElementException;
import java.util.Random;
import java.util.Set;

/**
 * Calls with any arguments in any state: none throws but row() (and that one NoSuchElementException); calls that ask,
 * and answers below 0, change nothing; the ROW stays with each answer below 0. What a call makes is next to nothing.
 */
public final class AnyArgumentsTest {
    private static final Due DUE = new Due("AnyArgumentsTest");
    private static final int[] EDGES = {
        Integer.MIN_VALUE, Integer.MIN_VALUE + 1, -101, -60, -59, -2, -1, 0, 1, 2, 3, 4, 5, 6, 7, 8, 9, 10, 11, 12, 13,
        49, 50, 51, 59, 60, 61, 99, 100, 101, 199, 200, 201, 999, 1000, 9999, 10000, 99999, 100000, 100001,
        Integer.MAX_VALUE - 1, Integer.MAX_VALUE,
    };
    private static final Set<String> CHANGING = Set.of("sign", "end", "net", "adds", "drops", "waiting", "goal",
            "riders", "out", "closes", "often", "crowd", "seats", "settles", "balances", "clears", "offset");
    private static final String[] NETS = {
        "", "5:0-1-1", "6:0-5-1-4-2;12=1-3-2;2:0-20-2", CostsTest.CHAIN,
        "60=0-1-1-1-2-1-3-1-4-1-5-1-6-1-7;1=7-99-8-99-9-99-0-99-2-99-4-99-6-99-1;9=8-5-9;8=9-6-8;7=0-9-9;3=3-3-4",
    };

    public static void main(String[] args) throws ReflectiveOperationException {
        List<Method> face = new ArrayList<>();
        for (Method m : LineChoice.class.getDeclaredMethods()) {
            if (Modifier.isPublic(m.getModifiers())) {
                face.add(m);
            }
        }
        face.sort(Comparator.comparing(Method::getName));
        for (int seed = 1; seed <= 40; seed++) {
            run(new Random(seed), face, NETS[seed % NETS.length]);
        }
        madeByCalls();
        DUE.close();
    }

    private static void run(Random random, List<Method> face, String net) throws ReflectiveOperationException {
        LineChoice x = Due.with(net, random.nextInt(10), 9999, 9999, 9999, 9999, 9999, 9999, 9999, 9999, 9999, 9999);
        x.crowd(random.nextBoolean() ? 9999 : 50);
        for (int i = 0; i < 400; i++) {
            if (random.nextInt(20) == 0) {
                Due.net(x, NETS[random.nextInt(NETS.length)]);
            }
            Method m = face.get(random.nextInt(face.size()));
            Object[] args = new Object[m.getParameterCount()];
            StringBuilder shown = new StringBuilder(m.getName());
            for (int k = 0; k < args.length; k++) {
                boolean flag = m.getParameterTypes()[k] == boolean.class;
                args[k] = flag ? (Object) random.nextBoolean() : (Object) EDGES[drawn(random, k)];
                shown.append(' ').append(args[k]);
            }
            String before = Due.state(x);
            x.worst();
            String row = Due.row(x);
            String answer = answer(m, x, args);
            DUE.is(shown + " throws by itself", answer.startsWith("throws") && !m.getName().equals("row"), false);
            boolean below = answer.startsWith("-") && !m.getName().equals("row");
            if (below || answer.equals("false")) {
                DUE.is(shown + ": the row stays", Due.row(x), row);
            }
            if (below || answer.equals("false") || !CHANGING.contains(m.getName())) {
                DUE.is(shown + ": all stays", Due.state(x), before);
            }
        }
    }

    /** First arguments are small ones mostly, so that many calls find a LINE or a STOP. */
    private static int drawn(Random random, int k) {
        return k == 0 && random.nextInt(3) > 0 ? 7 + random.nextInt(8) : random.nextInt(EDGES.length);
    }

    private static String answer(Method m, LineChoice x, Object[] args) throws ReflectiveOperationException {
        try {
            return String.valueOf(m.invoke(x, args));
        } catch (InvocationTargetException e) {
            boolean due = m.getName().equals("row") && e.getCause() instanceof NoSuchElementException;
            DUE.is(m.getName() + " threw " + e.getCause(), due, true);
            return "throws";
        }
    }

    /** All calls of a run share one room: rows are made by the constructor and used again. */
    private static void madeByCalls() {
        LineChoice x = Due.with(NETS[4], 5, 9999, 9999, 9999, 9999, 9999, 9999, 9999, 9999, 9999, 9999);
        x.crowd(700);
        dearCalls(x);
        var threads = (com.sun.management.ThreadMXBean) ManagementFactory.getThreadMXBean();
        long thread = Thread.currentThread().getId();
        long before = threads.getThreadAllocatedBytes(thread);
        for (int i = 0; i < 40; i++) {
            dearCalls(x);
        }
        long made = threads.getThreadAllocatedBytes(thread) - before;
        DUE.is("40 times the dear calls make " + made + " bytes, less than 10000", made < 10000, true);
    }

    private static void dearCalls(LineChoice x) {
        x.settles(50);
        x.balances(0, 200);
        x.best(1);
        x.centre();
        x.spare();
        x.usual(0, 60);
        x.uses(0, 0);
        x.skips(0, 1);
        x.total();
    }
}
