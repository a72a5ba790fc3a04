import java.lang.reflect.InvocationTargetException;
import java.lang.reflect.Method;
import java.lang.reflect.Modifier;
import java.util.ArrayList;
import java.util.Comparator;
import java.util.List;
import java.util.StringJoiner;
import java.util.function.Supplier;

/**
 * What the tests of boundaries share. Each such test is a static method named after its promise (promise04Frequency)
 * or its term (terms2RowStays). A refused call is asked of one of two objects made alike; all that the two answer
 * afterwards must be the same. No object gets more than 512 calls.
 */
final class Edges {
    interface Call {
        long of(LineChoice x);
    }

    interface OfOne {
        long of(LineChoice x, int a);
    }

    interface OfTwo {
        long of(LineChoice x, int a, int b);
    }

    static final int LEAST = Integer.MIN_VALUE;
    static final int MOST = Integer.MAX_VALUE;
    /** What THE TEXT holds in busy(), twelve(): two LINES, so that what is left of it can be read. */
    static final String TEXT = "9=3-8-4";

    private final Due due;
    private String test = "";

    Edges(String name) {
        due = new Due(name);
    }

    static List<Method> testsOf(Class<?> type) {
        List<Method> all = new ArrayList<>();
        for (Method m : type.getDeclaredMethods()) {
            if (Modifier.isStatic(m.getModifiers()) && m.getName().matches("(promise|terms)\\d.*")) {
                all.add(m);
            }
        }
        all.sort(Comparator.comparing(Method::getName));
        return all;
    }

    void runAll(Class<?> type) throws IllegalAccessException {
        for (Method m : testsOf(type)) {
            test = m.getName();
            try {
                m.invoke(null);
            } catch (InvocationTargetException e) {
                due.is(test + " threw", e.getCause(), "nothing");
            }
        }
        due.close();
    }

    void is(String what, Object got, Object want) {
        due.is(test + ": " + what, got, want);
    }

    /** An answer with the ROW behind it, for example "1400 [6, 1]". */
    void tells(String what, LineChoice x, long got, String want) {
        due.is(test + ": " + what, x, got, want);
    }

    /** Five LINES, one of them OUT, a STOP CLOSED, crowds, a ROW of two numbers, and TEXT. */
    static LineChoice busy() {
        LineChoice x = Due.with("6:0-5-1-4-2;12=1-3-2;2:0-20-2;7:4-9-5", 2, 100, 90, 30, 0, 8, 0, 0, 0, 0, 1);
        x.waiting(40);
        x.crowd(100);
        x.seats(0, 10);
        x.offset(1, 7);
        x.settles(2);
        x.out(3, true);
        x.closes(6, true);
        x.total();
        return Due.tell(x, TEXT);
    }

    /** As many LINES as can be: the first with eight STOPS, the others with two; all of them lead to the GOAL, 7. */
    static LineChoice twelve() {
        String first = "10:0-1-1-1-2-1-3-1-4-1-5-1-6-1-7";
        LineChoice x = Due.with(first + ";9:8-2-7".repeat(11), 7, 10, 10, 10, 10, 10, 10, 10, 10, 10, 10);
        x.total();
        return Due.tell(x, TEXT);
    }

    /** All that is told of an object, the ROW and THE TEXT first. */
    static String all(LineChoice x) {
        StringJoiner all = new StringJoiner(" ");
        all.add(Due.row(x)).add("text " + x.count(10));
        all.add(Due.state(x));
        all.add("total " + x.total() + Due.row(x) + " sets " + x.count(11) + " costs");
        for (int i = 0; i < 10; i++) {
            all.add(String.valueOf(x.cost(i)));
        }
        for (int i = 0; i < x.count(0); i++) {
            for (int p = 0; p < x.line(i, 1); p++) {
                all.add(x.load(i, p) + "/" + x.comes(i, p, 777));
            }
        }
        return all.add("read " + x.net() + " " + x.stop(0, 0)).toString();
    }

    /** An answer below 0, or 0 for false, that changes nothing. */
    void refuses(String what, long want, Supplier<LineChoice> made, Call call) {
        LineChoice x = made.get();
        is(what, call.of(x), want);
        is(what + " changes nothing", all(x), all(made.get()));
    }

    void refuses(String what, long want, Call call) {
        refuses(what, want, Edges::busy, call);
    }

    /** A call that reads THE TEXT and refuses it: nothing is changed, but THE TEXT is empty. */
    void refusesText(String text, int p, Supplier<LineChoice> made, Call reader) {
        LineChoice x = Due.tell(made.get(), text);
        LineChoice twin = made.get();
        twin.end(0);
        is("'" + text + "'", reader.of(x), -21L - p);
        is("'" + text + "' changes nothing but the text", all(x), all(twin));
    }

    /** A call that sets a number least .. most and answers what it was. */
    void sets(int least, int most, OfOne set, Call get) {
        for (int v : new int[] {least, least + 1, most - 1, most}) {
            LineChoice x = busy();
            long before = get.of(x);
            is(v + " answers what it was", set.of(x, v), before);
            is("it is " + v, get.of(x), v);
            is("the row stays with " + v, Due.row(x), Due.row(busy()));
        }
        for (int v : new int[] {least - 1, most + 1, LEAST, MOST}) {
            refuses(String.valueOf(v), LineChoice.NONE, x -> set.of(x, v));
        }
    }

    /** The numbers that one argument may have, and no others: one step to either side of each end. */
    void takes(Supplier<LineChoice> made, int least, int most, OfOne call) {
        for (int v : new int[] {least, Math.min(least + 1, most), Math.max(most - 1, least), most}) {
            is(v + " is refused", call.of(made.get(), v) == LineChoice.NONE, false);
        }
        for (int v : new int[] {least - 1, most + 1, LEAST, MOST}) {
            refuses(String.valueOf(v), LineChoice.NONE, made, x -> call.of(x, v));
        }
    }

    /** An argument that is a STOP. */
    void takesStops(OfOne call) {
        takes(Edges::busy, 0, 9, call);
    }

    /** An argument that is a LINE: of twelve, of five, of none. */
    void takesLines(OfOne call) {
        takes(Edges::twelve, 0, 11, call);
        refuses("a line behind the last one", LineChoice.NONE, x -> call.of(x, 5));
        refuses("a line of none", LineChoice.NONE, LineChoice::new, x -> call.of(x, 0));
    }

    /** Arguments that are a LINE and its STEP. */
    void takesSteps(OfTwo call) {
        takesLines((x, line) -> call.of(x, line, 0));
        takes(Edges::twelve, 0, 6, (x, p) -> call.of(x, 0, p));
        takes(Edges::twelve, 0, 0, (x, p) -> call.of(x, 11, p));
    }

    /** Arguments that are a LINE and its STOP p, the last one, too. */
    void takesHalts(OfTwo call) {
        takesLines((x, line) -> call.of(x, line, 1));
        takes(Edges::twelve, 0, 7, (x, p) -> call.of(x, 0, p));
        takes(Edges::twelve, 0, 1, (x, p) -> call.of(x, 11, p));
    }

    /** The ROW is told anew by an answer that is not below 0, and has so many numbers then. */
    void tellsRow(int numbers, Call call) {
        LineChoice x = twelve();
        x.chosen(7);
        is("the row is empty ahead of it", x.count(9), 0);
        is("answered below 0", call.of(x) < 0, false);
        is("numbers of the row", x.count(9), numbers);
    }

    /** The ROW stays with an answer that is not below 0, if the call does not tell of it. */
    void tellsNoRow(Call call) {
        LineChoice x = busy();
        String row = Due.row(x);
        is("answered below 0", call.of(x) < 0, false);
        is("the row stays", Due.row(x), row);
    }
}
