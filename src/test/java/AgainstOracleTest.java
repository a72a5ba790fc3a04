import java.lang.reflect.InvocationTargetException;
import java.lang.reflect.Method;
import java.util.ArrayList;
import java.util.HashMap;
import java.util.List;
import java.util.Map;
import java.util.NoSuchElementException;
import java.util.Random;

/** Runs of calls drawn by a seed, asked of LineChoice and of the Oracle; answers and ROWS must be the same. */
public final class AgainstOracleTest {
    /** Each call with what its arguments are drawn as: l LINE, p place, s STOP, b boolean, else a range. */
    private static final String[] CALLS = {
        "drops l", "waiting 0..101", "goal s", "riders s 0..300", "riders s -1..10001", "out l b", "closes s b",
        "often l 0..61", "line l -1..5", "stop l p", "cost s", "rounds", "chosen s", "boarding l p", "aboard l p",
        "worst", "wait s", "boards s", "slack l p", "reach -10..9000", "between s s", "load l p", "passes s",
        "ridden l", "boardings l p", "total", "fullest", "changes", "crowd -1..10000", "crowd 0..300",
        "seats l 0..1000", "settles 0..4", "settles 49..51", "balances -1..300 0..9", "balances 0..3 199..201",
        "averaged l p", "clears", "without l", "shut s", "more l -60..60", "more l -9..9", "best 0..60", "best 1..5",
        "towards s", "slower l p -100..100", "slower l p -9..9", "skips l p", "uses s l", "centre", "spare",
        "offset l -1..60", "comes l p -1..100001", "comes l p 0..3000", "journey s -1..100001", "journey s 0..3000",
        "usual s 0..61", "count -1..13", "row -1..17",
    };
    private static final int RUNS = Integer.getInteger("runs", 600);
    private static final int CALLS_OF_RUN = 150;

    private final Random random;
    private final LineChoice x = new LineChoice();
    private final Oracle y = new Oracle();
    private final List<String> log = new ArrayList<>();
    private final int most;
    private static final Map<String, Method[]> METHODS = new HashMap<>();

    private AgainstOracleTest(long seed) {
        random = new Random(seed);
        most = 2 + random.nextInt(11);
    }

    public static void main(String[] args) throws ReflectiveOperationException {
        for (Method m : LineChoice.class.getDeclaredMethods()) {
            if (java.lang.reflect.Modifier.isPublic(m.getModifiers())) {
                METHODS.put(m.getName(), new Method[] {m, Oracle.class.getMethod(m.getName(), m.getParameterTypes())});
            }
        }
        int wrong = 0;
        for (long seed = 1; seed <= RUNS && wrong < 5; seed++) {
            if (!new AgainstOracleTest(seed).runs()) {
                wrong++;
            }
        }
        System.out.println("AgainstOracleTest: " + RUNS + " runs, " + wrong + " of them wrong");
        if (wrong != 0) {
            System.exit(1);
        }
    }

    private int range(int from, int to) {
        return from + random.nextInt(to - from + 1);
    }

    private boolean runs() throws ReflectiveOperationException {
        boolean same = tells("net", lines());
        for (int i = 0; i < 10 && same; i++) {
            same = random.nextInt(4) == 0 || asks("riders", i, random.nextInt(random.nextInt(20) == 0 ? 9999 : 400));
        }
        for (int i = 0; i < CALLS_OF_RUN && same; i++) {
            int kind = random.nextInt(100);
            if (kind < 3) {
                same = tells("net", kind == 0 ? spoiled(lines()) : lines());
            } else if (kind < 7) {
                same = tells("adds", kind == 3 ? spoiled(line()) : line());
            } else if (kind == 7) {
                same = tells(random.nextBoolean() ? "net" : "adds", spoiled(random.nextBoolean() ? line() : lines()));
            } else {
                same = draws(CALLS[random.nextInt(CALLS.length)]);
            }
        }
        if (!same) {
            System.out.println("AgainstOracleTest: " + String.join("\n  ", log));
        }
        return same;
    }

    private boolean draws(String call) throws ReflectiveOperationException {
        String[] words = call.split(" ");
        Object[] args = new Object[words.length - 1];
        int line = 0;
        for (int i = 0; i < args.length; i++) {
            String word = words[i + 1];
            if (word.equals("l")) {
                line = random.nextInt(30) == 0 ? range(-1, 12) : random.nextInt(Math.max(1, y.count(0)));
                args[i] = line;
            } else if (word.equals("p")) {
                int halts = Math.max(1, y.line(line, 1));
                args[i] = random.nextInt(20) == 0 ? range(-1, 9) : random.nextInt(halts);
            } else if (word.equals("s")) {
                args[i] = random.nextInt(30) == 0 ? range(-1, 10) : random.nextInt(10);
            } else if (word.equals("b")) {
                args[i] = random.nextInt(3) == 0;
            } else {
                String[] ends = word.split("\\.\\.");
                args[i] = range(Integer.parseInt(ends[0]), Integer.parseInt(ends[1]));
            }
        }
        return asks(words[0], args);
    }

    private boolean asks(String name, Object... args) throws ReflectiveOperationException {
        String got = answer(METHODS.get(name)[0], x, args);
        String want = answer(METHODS.get(name)[1], y, args);
        String gotRow = Due.row(x);
        String wantRow = row();
        StringBuilder shown = new StringBuilder(name);
        for (Object a : args) {
            shown.append(' ').append(a);
        }
        log.add(shown + " answered " + got + " " + gotRow + ", due is " + want + " " + wantRow);
        return got.equals(want) && gotRow.equals(wantRow);
    }

    private String row() {
        List<Long> all = new ArrayList<>();
        for (int i = 0; i < y.count(9); i++) {
            all.add(y.row(i));
        }
        return all.toString();
    }

    private static String answer(Method m, Object on, Object[] args) throws ReflectiveOperationException {
        try {
            return String.valueOf(m.invoke(on, args));
        } catch (InvocationTargetException e) {
            if (e.getCause() instanceof NoSuchElementException) {
                return "throws.NoSuchElementException";
            }
            return "throws " + e.getCause();
        }
    }

    /** Tells both a text sign by sign, with up to three signs too many that end() takes off again. */
    private boolean tells(String reader, String s) throws ReflectiveOperationException {
        boolean same = true;
        for (int i = 0; i < s.length() && same; i += 4) {
            int v = 0;
            for (int k = 0; k < 4; k++) {
                v = v << 8 | (i + k < s.length() ? s.charAt(i + k) : random.nextInt(256));
            }
            same = asks("sign", v);
        }
        log.add("(the text is " + s + ")");
        same = same && asks("end", s.length() + (random.nextInt(50) == 0 ? range(-3, 5) : 0));
        return same && asks(reader);
    }

    private String line() {
        StringBuilder s = new StringBuilder();
        s.append(random.nextInt(3) == 0 ? range(1, 60) : range(1, 12)).append(random.nextInt(3) == 0 ? '=' : ':');
        List<Integer> stops = new ArrayList<>();
        for (int i = 0; i < 10; i++) {
            stops.add(i);
        }
        java.util.Collections.shuffle(stops, random);
        int halts = random.nextInt(3) == 0 ? 2 : range(2, 8);
        for (int i = 0; i < halts; i++) {
            s.append(stops.get(i));
            if (i < halts - 1) {
                s.append('-').append(random.nextInt(4) == 0 ? range(1, 99) : range(1, 15)).append('-');
            }
        }
        return s.toString();
    }

    private String lines() {
        StringBuilder s = new StringBuilder();
        int n = random.nextInt(40) == 0 ? 0 : range(1, most);
        int told = 0;
        for (int i = 0; i < n; i++) {
            String line = line();
            told += line.indexOf('=') >= 0 ? 2 : 1;
            boolean fits = told <= 12 || random.nextInt(30) == 0;
            if (fits && s.length() + line.length() < 396) {
                s.append(i > 0 && s.length() > 0 ? ";" : "").append(line);
            }
        }
        return s.toString();
    }

    /** A text with one to three signs changed, taken off or put in. */
    private String spoiled(String s) {
        StringBuilder t = new StringBuilder(s);
        for (int i = range(1, 3); i > 0; i--) {
            char usual = "0123456789--::==;; ".charAt(random.nextInt(19));
            char sign = random.nextInt(6) == 0 ? (char) random.nextInt(256) : usual;
            int at = random.nextInt(t.length() + 1);
            int kind = random.nextInt(4);
            if (kind == 0 && at < t.length()) {
                t.setCharAt(at, sign);
            } else if (kind == 1 && at < t.length()) {
                t.deleteCharAt(at);
            } else if (kind == 2 && t.length() < 400) {
                t.insert(at, sign);
            } else if (random.nextInt(3) == 0) {
                t.setLength(at);
            }
        }
        return t.toString();
    }
}
