import java.util.NoSuchElementException;

/** The boundaries that promises 49 to 54 name: TIMETABLE, count, row. */
public final class TimetableEdgesTest {
    private static final Edges E = new Edges("TimetableEdgesTest");

    public static void main(String[] args) throws IllegalAccessException {
        E.runAll(TimetableEdgesTest.class);
    }

    private static LineChoice closedGoal() {
        LineChoice x = Due.with("10:0-5-1", 1, 10);
        x.closes(1, true);
        return x;
    }

    // ---- 49

    static void promise49Offset() {
        E.is("at first", Edges.twelve().offset(11, 0), 0);
        E.sets(0, 59, (x, n) -> x.offset(1, n), x -> x.line(1, 3));
    }

    static void promise49Line() {
        E.takesLines((x, line) -> x.offset(line, 59));
        E.refuses("no line, no offset", -1, x -> x.offset(5, 60));
    }

    // ---- 50

    static void promise50Place() {
        E.takesHalts((x, line, p) -> x.comes(line, p, 0));
        E.tellsNoRow(x -> x.comes(0, 0, 0));
    }

    static void promise50Points() {
        E.takes(Edges::busy, 0, 100000, (x, t) -> x.comes(0, 0, t));
        E.refuses("no place, no points", -1, x -> x.comes(0, 3, 100001));
        LineChoice x = Due.with("60:0-1-1");
        E.is("0", x.comes(0, 0, 0), 0);
        E.is("1", x.comes(0, 0, 1), 100);
        E.is("99999", x.comes(0, 0, 99999), 100000);
        E.is("100000", x.comes(0, 0, 100000), 100000);
    }

    static void promise50FromTOn() {
        LineChoice x = Due.with("7:0-1-1");
        E.is("one ahead", x.comes(0, 0, 856), 857);
        E.is("just then", x.comes(0, 0, 857), 857);
        E.is("one behind", x.comes(0, 0, 858), 1714);
    }

    static void promise50CutAsAWhole() {
        LineChoice x = Due.with("7:0-1-1");
        int[] leaves = {0, 857, 1714, 2571, 3428, 4285, 5142, 6000, 6857};
        for (int k = 1; k < leaves.length; k++) {
            E.is("behind the one ahead", x.comes(0, 0, leaves[k - 1] + 1), leaves[k]);
            E.is("just then", x.comes(0, 0, leaves[k]), leaves[k]);
        }
    }

    static void promise50OverTheHour() {
        for (int f : new int[] {1, 7, 59, 60}) {
            LineChoice x = Due.with(f + ":0-1-1");
            int next = 6000 + 6000 / f;
            E.is("5999, " + f + " an hour", x.comes(0, 0, 5999), 6000);
            E.is("6000, " + f + " an hour", x.comes(0, 0, 6000), 6000);
            E.is("6001, " + f + " an hour", x.comes(0, 0, 6001), next);
        }
    }

    static void promise50NoneAheadOfTheFirst() {
        LineChoice x = Due.with("10:0-5-1");
        x.offset(0, 59);
        E.is("from 0", x.comes(0, 0, 0), 5900);
        E.is("one ahead", x.comes(0, 0, 5899), 5900);
        E.is("just then", x.comes(0, 0, 5900), 5900);
        E.is("one behind", x.comes(0, 0, 5901), 6500);
        E.is("at its second stop", x.comes(0, 1, 0), 6400);
        E.is("one behind, there", x.comes(0, 1, 6401), 7000);
        x.offset(0, 0);
        E.is("offset 0", x.comes(0, 0, 0), 0);
        x.offset(0, 1);
        E.is("offset 1", x.comes(0, 0, 0), 100);
    }

    static void promise50Slowest() {
        LineChoice x = Due.with("1:0-99-1-99-2-99-3-99-4-99-5-99-6-99-7", 7, 9999);
        x.crowd(9999);
        x.seats(0, 1);
        x.settles(1);
        x.offset(0, 59);
        E.is("at its last stop", x.comes(0, 7, 100000), 5900 + 7 * 109900);
        E.is("at its second stop", x.comes(0, 1, 100000), 5900 + 109900);
        E.is("at its first stop", x.comes(0, 0, 100000), 101900);
    }

    static void promise50OutAndClosed() {
        LineChoice x = Due.with("10:0-5-1");
        x.out(0, true);
        x.closes(1, true);
        E.is("it comes", x.comes(0, 1, 501), 1100);
    }

    // ---- 51

    static void promise51Stop() {
        E.takesStops((x, stop) -> x.journey(stop, 0));
        E.refuses("no stop, no points", -1, x -> x.journey(10, -1));
    }

    static void promise51Points() {
        E.takes(Edges::busy, 0, 100000, (x, t) -> x.journey(0, t));
        LineChoice x = Due.with("60:0-1-1", 1);
        E.is("0", x.journey(0, 0), 100);
        E.is("1", x.journey(0, 1), 199);
        E.is("99999", x.journey(0, 99999), 101);
        E.is("100000", x.journey(0, 100000), 100);
    }

    static void promise51NoCost() {
        E.refuses("no line", -2, x -> x.journey(3, 0));
        E.refuses("closed", -2, x -> x.journey(6, 0));
        E.refuses("NONE comes first", -1, x -> x.journey(3, 100001));
        E.refuses("a closed goal", -2, TimetableEdgesTest::closedGoal, x -> x.journey(1, 0));
        E.refuses("to a closed goal", -2, TimetableEdgesTest::closedGoal, x -> x.journey(0, 0));
    }

    static void promise51Goal() {
        LineChoice x = Edges.busy();
        E.tells("0, and no rides", x, x.journey(2, 100000), "0 []");
    }

    static void promise51TheFirstEight() {
        LineChoice x = Due.with(CostsTest.CHAIN, 9);
        E.tells("seven", x, x.journey(2, 0), "3700 [2, 3, 3, 4, 4, 5, 5, 6, 6, 7, 7, 8, 8, 9]");
        E.tells("eight", x, x.journey(1, 0), "4300 [1, 2, 2, 3, 3, 4, 4, 5, 5, 6, 6, 7, 7, 8, 8, 9]");
        E.tells("nine", x, x.journey(0, 0), "4900 [0, 1, 1, 2, 2, 3, 3, 4, 4, 5, 5, 6, 6, 7, 7, 8]");
        E.tells("one", x, x.journey(8, 0), "100 [8, 9]");
    }

    static void promise51OfLikeOnesTheFirstOfTheSet() {
        LineChoice x = Due.with("10:0-6-1;10:0-5-1", 1);
        E.tells("like", x, x.journey(0, 0), "500 [1, 1]");
        x.offset(1, 1);
        E.tells("the other is ahead", x, x.journey(0, 0), "600 [0, 1]");
        E.tells("one too late for it", x, x.journey(0, 1), "599 [1, 1]");
        E.tells("just in time", x, x.journey(0, 100), "500 [1, 1]");
        E.tells("one too late", x, x.journey(0, 101), "1099 [0, 1]");
    }

    static void promise51JustInTimeToChange() {
        LineChoice x = Due.with("10:0-5-1;10:1-5-2", 2);
        x.offset(1, 4);
        E.tells("a minute too late", x, x.journey(0, 0), "1500 [0, 1, 1, 2]");
        x.offset(1, 5);
        E.tells("just in time", x, x.journey(0, 0), "1000 [0, 1, 1, 2]");
        x.offset(1, 6);
        E.tells("a minute to wait", x, x.journey(0, 0), "1100 [0, 1, 1, 2]");
    }

    static void promise51BeyondTheMostPoints() {
        LineChoice x = Due.with("1:0-99-1;1:1-99-2", 2);
        // It leaves at 102000, is at 1 at 111900, leaves there at 114000.
        E.tells("from 100000 on", x, x.journey(0, 100000), "23900 [0, 1, 1, 2]");
    }

    // ---- 52

    static void promise52Stop() {
        E.takesStops((x, stop) -> x.usual(stop, 1));
        E.tellsRow(2, x -> x.usual(0, 1));
    }

    static void promise52Numbers() {
        E.takes(Edges::busy, 1, 60, (x, n) -> x.usual(0, n));
        LineChoice x = Due.with("10:0-5-1", 1);
        E.tells("1", x, x.usual(0, 1), "500 [500, 500]");
        E.tells("2", x, x.usual(0, 2), "750 [500, 1000]");
        E.tells("59", x, x.usual(0, 59), "752 [500, 1000]");
        E.tells("60", x, x.usual(0, 60), "750 [500, 1000]");
    }

    static void promise52NoCost() {
        E.refuses("no line", -2, x -> x.usual(3, 1));
        E.refuses("closed", -2, x -> x.usual(6, 1));
        E.refuses("NONE comes first, 0", -1, x -> x.usual(3, 0));
        E.refuses("NONE comes first, 61", -1, x -> x.usual(3, 61));
        E.refuses("a closed goal", -2, TimetableEdgesTest::closedGoal, x -> x.usual(1, 1));
    }

    static void promise52Goal() {
        LineChoice x = Edges.busy();
        E.tells("no time at all", x, x.usual(2, 60), "0 [0, 0]");
    }

    static void promise52Cut() {
        LineChoice x = Due.with("7:0-5-1", 1);
        // 500, 1257, 1157, 1057
        E.is("1757 by 2", x.usual(0, 2), 878);
        E.is("2914 by 3", x.usual(0, 3), 971);
        E.is("3971 by 4", x.usual(0, 4), 992);
    }

    // ---- 53

    static void promise53What() {
        E.takes(Edges::busy, 0, 12, (x, what) -> x.count(what));
        int[] want = {5, 40, 2, 229, 100, 2, 6, 64, 8, 2, 7, 28, 7};
        LineChoice x = Edges.busy();
        for (int what = 0; what < want.length; what++) {
            E.is("what " + what, x.count(what), want[what]);
        }
        for (int what = 0; what < want.length; what++) {
            int asked = what;
            E.tellsNoRow(y -> y.count(asked));
        }
    }

    static void promise53InNoSet() {
        LineChoice x = Due.with("10:0-5-1;10:9-5-1;10:1-5-2", 1);
        E.is("nothing asked before", x.count(11), 4);
        x.goal(2);
        E.is("to 2", x.count(11), 0);
        x.goal(0);
        E.is("to 0", x.count(11), 7);
        x.goal(1);
        x.out(0, true);
        E.is("one that is out", x.count(11), 5);
    }

    static void promise53WithACost() {
        LineChoice x = Due.with("10:0-5-1;10:9-5-1;10:1-5-2", 1);
        E.is("nothing asked before", x.count(12), 515);
        x.goal(2);
        E.is("to 2", x.count(12), 519);
        x.goal(0);
        E.is("to 0", x.count(12), 1);
        x.closes(0, true);
        E.is("to 0, closed", x.count(12), 0);
    }

    static void promise53MostOfAll() {
        LineChoice x = Due.with("60:0-1-1-1-2-1-3-1-4-1-5-1-6-1-7" + ";9:8-2-7".repeat(11), 7);
        for (int i = 0; i < 10; i++) {
            x.riders(i, 9999);
            x.closes(i, true);
        }
        E.is("lines", x.count(0), 12);
        E.is("riders", x.count(3), 99990);
        E.is("steps", x.count(6), 18);
        E.is("closed", x.count(7), 1023);
        E.is("in no set", x.count(11), 4095);
        E.is("with a cost", x.count(12), 0);
    }

    // ---- 54

    private static String number(LineChoice x, int i) {
        try {
            return String.valueOf(x.row(i));
        } catch (NoSuchElementException e) {
            return e.getClass().getName();
        }
    }

    private static void hasNot(String what, LineChoice x, int i) {
        E.is(what, number(x, i), "java.util.NoSuchElementException");
    }

    static void promise54NoneAtFirst() {
        LineChoice x = new LineChoice();
        for (int i : new int[] {-1, 0, 1, Edges.LEAST, Edges.MOST}) {
            hasNot("number " + i, x, i);
        }
    }

    static void promise54NoneSuch() {
        LineChoice x = Edges.busy();
        E.is("numbers", x.count(9), 2);
        for (int i : new int[] {-1, 2, 3, 15, 16, Edges.LEAST, Edges.MOST}) {
            hasNot("number " + i, x, i);
        }
        E.is("number 0", number(x, 0), "9");
        E.is("number 1", number(x, 1).isEmpty(), false);
        E.is("all stays", Edges.all(x), Edges.all(Edges.busy()));
    }

    static void promise54OfSixteen() {
        LineChoice x = Due.with(CostsTest.CHAIN, 9);
        x.journey(1, 0);
        E.is("number 14", number(x, 14), "8");
        E.is("number 15", number(x, 15), "9");
        hasNot("number 16", x, 16);
    }

    static void promise54AShorterOne() {
        LineChoice x = Due.with(CostsTest.CHAIN, 9);
        x.journey(0, 0);
        x.total();
        hasNot("number 2", x, 2);
        x.rounds();
        hasNot("number 1", x, 1);
        E.is("number 0", number(x, 0), "10");
    }

    static void promise54AnEmptyOne() {
        LineChoice x = Edges.busy();
        x.chosen(3);
        hasNot("a set without lines", x, 0);
        x.total();
        x.stop(0, 2);
        hasNot("the last stop of a line", x, 0);
        x.total();
        x.journey(2, 0);
        hasNot("no rides", x, 0);
    }

    static void promise54BelowZeroAndBeyondAnInt() {
        LineChoice x = Due.with("1:0-99-1-99-2-99-3-99-4-99-5-99-6-99-7", 7);
        x.waiting(100);
        for (int i = 0; i < 7; i++) {
            x.riders(i, 9999);
        }
        x.without(0);
        E.is("TOTAL less", number(x, 0), String.valueOf(-9999L * (7 * 6000 + 28 * 9900)));
    }
}
