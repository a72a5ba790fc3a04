import java.util.NoSuchElementException;
import java.util.StringJoiner;

/** What the tests share: answers that are due, texts told to an object, the ROW read as a text. */
final class Due {
    private final String test;
    private int asked;
    private int wrong;

    Due(String test) {
        this.test = test;
    }

    void is(String what, Object got, Object want) {
        asked++;
        String g = String.valueOf(got);
        String w = String.valueOf(want);
        if (!g.equals(w)) {
            wrong++;
            System.out.println(test + ": " + what + " answered " + g + ", due is " + w);
        }
    }

    /** The answer of a call and the ROW behind it, for example "1400 [6, 1]". */
    void is(String what, LineChoice x, long got, String want) {
        is(what, got + " " + row(x), want);
    }

    void close() {
        System.out.println(test + ": " + asked + " answers, " + wrong + " of them wrong");
        if (wrong != 0) {
            System.exit(1);
        }
    }

    /** THE TEXT becomes s (what it held before goes). */
    static LineChoice tell(LineChoice x, String s) {
        x.end(0);
        for (int i = 0; i < s.length(); i += 4) {
            int v = 0;
            for (int k = 0; k < 4; k++) {
                v = v << 8 | (i + k < s.length() ? s.charAt(i + k) & 255 : 0);
            }
            x.sign(v);
        }
        x.end(s.length());
        return x;
    }

    static int net(LineChoice x, String s) {
        return tell(x, s).net();
    }

    static int adds(LineChoice x, String s) {
        return tell(x, s).adds();
    }

    static LineChoice with(String s) {
        LineChoice x = new LineChoice();
        if (net(x, s) < 0) {
            throw new IllegalStateException("a test tells a wrong text: " + s);
        }
        return x;
    }

    /** An object with that text and GOAL, and RIDERS of the STOPS 0, 1, .. */
    static LineChoice with(String s, int goal, int... riders) {
        LineChoice x = with(s);
        x.goal(goal);
        for (int i = 0; i < riders.length; i++) {
            x.riders(i, riders[i]);
        }
        return x;
    }

    static String row(LineChoice x) {
        StringJoiner all = new StringJoiner(", ", "[", "]");
        int n = x.count(9);
        for (int i = 0; i < n; i++) {
            all.add(String.valueOf(x.row(i)));
        }
        return all.toString();
    }

    static boolean hasNumber(LineChoice x, int i) {
        try {
            x.row(i);
            return true;
        } catch (NoSuchElementException e) {
            return false;
        }
    }

    /** All that is told of an object but THE TEXT, as one text (it leaves another ROW behind). */
    static String state(LineChoice x) {
        StringJoiner all = new StringJoiner(" ");
        for (int what = 0; what <= 8; what++) {
            all.add(String.valueOf(x.count(what)));
        }
        for (int i = 0; i < 10; i++) {
            int riders = x.riders(i, 0);
            x.riders(i, riders);
            all.add("r" + riders);
        }
        for (int i = 0; i < x.count(0); i++) {
            all.add("line");
            for (int what = 0; what <= 4; what++) {
                all.add(String.valueOf(x.line(i, what)));
            }
            for (int p = 0; p < x.line(i, 1); p++) {
                all.add(x.stop(i, p) + row(x) + x.averaged(i, p));
            }
        }
        return all.toString();
    }
}
