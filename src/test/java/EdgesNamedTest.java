import java.lang.reflect.Method;
import java.util.Map;
import java.util.TreeMap;

/** Each promise has tests of its boundaries that bear its number, in the class of its section. */
public final class EdgesNamedTest {
    private static final Due DUE = new Due("EdgesNamedTest");

    public static void main(String[] args) {
        Map<Integer, Integer> tests = new TreeMap<>();
        count(tests, LinesEdgesTest.class, 1, 14);
        count(tests, CostsEdgesTest.class, 15, 25);
        count(tests, LoadsEdgesTest.class, 26, 32);
        count(tests, CrowdsEdgesTest.class, 33, 38);
        count(tests, WhatIfEdgesTest.class, 39, 48);
        count(tests, TimetableEdgesTest.class, 49, 54);
        for (int promise = 1; promise <= 54; promise++) {
            DUE.is("promise " + promise + " has tests", tests.containsKey(promise), true);
        }
        DUE.is("the terms have tests", Edges.testsOf(TermsEdgesTest.class).isEmpty(), false);
        DUE.close();
    }

    private static void count(Map<Integer, Integer> tests, Class<?> type, int first, int last) {
        for (Method m : Edges.testsOf(type)) {
            int promise = Integer.parseInt(m.getName().substring(7, 9));
            DUE.is(m.getName() + " stands where it belongs", promise >= first && promise <= last, true);
            tests.merge(promise, 1, Integer::sum);
        }
    }
}
