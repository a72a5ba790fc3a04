/** The boundaries that promises 26 to 32 name: LOADS. */
public final class LoadsEdgesTest {
    private static final Edges E = new Edges("LoadsEdgesTest");
    private static final String THREE = "1:0-5-1;1:0-5-1;1:0-5-1";
    /** The same LINE is left at 1 and boarded anew: COST there is 500, like riding on. */
    private static final String ANEW = "60:0-5-1-5-2;1:1-5-2";
    private static final String LONG = "1:0-99-1-99-2-99-3-99-4-99-5-99-6-99-7";

    public static void main(String[] args) throws IllegalAccessException {
        E.runAll(LoadsEdgesTest.class);
    }

    private static LineChoice anew(int riders) {
        LineChoice x = Due.with(ANEW, 2, riders);
        x.waiting(1);
        return x;
    }

    private static LineChoice closedGoal() {
        LineChoice x = Due.with(THREE, 1, 5, 6, 7);
        x.closes(1, true);
        return x;
    }

    /** As many at each STOP as can be, on the slowest way there is. */
    private static LineChoice crowded() {
        int most = 9999;
        LineChoice x = Due.with(LONG, 7, most, most, most, most, most, most, most, most, most, most);
        x.waiting(100);
        return x;
    }

    // ---- 26

    static void promise26Step() {
        E.takesSteps((x, line, p) -> x.load(line, p));
        E.tellsNoRow(x -> x.load(0, 0));
    }

    static void promise26CutAndLeftOver() {
        String[] want = {"0 0 0", "1 0 0", "2 0 0", "1 1 1", "2 1 1", "3 1 1", "2 2 2"};
        for (int v = 0; v < want.length; v++) {
            LineChoice x = Due.with(THREE, 1, v);
            E.is(v + " riders", x.load(0, 0) + " " + x.load(1, 0) + " " + x.load(2, 0), want[v]);
        }
    }

    static void promise26LeftOverToTheFirstTaken() {
        LineChoice x = Due.with("1:0-9-1;1:0-5-1", 1, 1);
        E.is("the slower one, first by number", x.load(0, 0), 0);
        E.is("the faster one, first taken", x.load(1, 0), 1);
    }

    static void promise26MostRiders() {
        E.is("9999 by 3", Due.with(THREE, 1, 9999).load(0, 0), 3333);
        LineChoice x = crowded();
        E.is("the first step", x.load(0, 0), 9999);
        E.is("the last step", x.load(0, 6), 69993);
    }

    static void promise26FromItsPlaceOn() {
        // 1 is the second STOP of line 0 and the third of line 1, which is the faster one.
        LineChoice x = Due.with("10:0-5-1-7-2;10:5-1-4-1-1-4-2", 2, 0, 41);
        x.waiting(100);
        E.is("line 0", x.load(0, 0) + " " + x.load(0, 1), "0 20");
        E.is("line 1", x.load(1, 0) + " " + x.load(1, 1) + " " + x.load(1, 2), "0 0 21");
    }

    static void promise26NobodyBoardsOneThatIsOut() {
        LineChoice x = Due.with(THREE, 1, 9);
        x.out(0, true);
        E.is("out", x.load(0, 0), 0);
        E.is("what is left to the first of the others", x.load(1, 0), 5);
        E.is("the last one", x.load(2, 0), 4);
        x.out(1, true);
        x.out(2, true);
        E.is("all out", x.load(2, 0), 0);
    }

    static void promise26NobodyBoardsOrAlightsAtAClosedOne() {
        LineChoice x = Due.with("10:0-5-1-5-2;20:1-1-2", 2, 9, 9);
        E.is("with a change", x.load(1, 0), 18);
        x.closes(1, true);
        E.is("closed", x.load(1, 0), 0);
        E.is("they ride on", x.load(0, 1), 9);
        E.is("nobody is there", closedGoal().load(0, 0), 0);
    }

    // ---- 27

    static void promise27Stop() {
        E.takesStops((x, stop) -> x.passes(stop));
        E.tellsRow(1, x -> x.passes(0));
    }

    static void promise27Goal() {
        LineChoice x = Due.with(THREE, 1, 5, 6, 7);
        E.tells("riders and who alight", x, x.passes(1), "11 [5]");
        x.riders(1, 0);
        E.tells("who alight", x, x.passes(1), "5 [5]");
        x.riders(0, 0);
        E.tells("nobody", x, x.passes(1), "0 [0]");
    }

    static void promise27WithoutACost() {
        LineChoice x = Due.with(THREE, 1, 5, 6, 7);
        E.tells("no line", x, x.passes(2), "7 [0]");
        LineChoice y = closedGoal();
        E.tells("to a closed goal", y, y.passes(0), "5 [0]");
        E.tells("the closed goal", y, y.passes(1), "6 [0]");
        LineChoice z = new LineChoice();
        E.tells("without lines", z, z.passes(9), "0 [0]");
    }

    static void promise27MostRiders() {
        LineChoice x = Due.with(CostsTest.CHAIN, 9, 9999, 9999, 9999, 9999, 9999, 9999, 9999, 9999, 9999, 9999);
        E.tells("first", x, x.passes(0), "9999 [0]");
        E.tells("second", x, x.passes(1), "19998 [9999]");
        E.tells("goal", x, x.passes(9), "99990 [89991]");
    }

    // ---- 28

    static void promise28Line() {
        E.takesLines((x, line) -> x.ridden(line));
        E.tellsRow(2, x -> x.ridden(0));
    }

    static void promise28FirstStepOfTheGreatest() {
        LineChoice x = Due.with("12:0-2-1-3-2-4-3", 3, 5, 0, 0);
        E.tells("all alike", x, x.ridden(0), "5 [5, 0]");
        x.riders(1, 1);
        E.tells("one more from the second on", x, x.ridden(0), "6 [6, 1]");
        x.riders(2, 1);
        E.tells("one more at the last one", x, x.ridden(0), "7 [7, 2]");
        LineChoice y = Edges.twelve();
        E.tells("the seventh step", y, y.ridden(0), "70 [70, 6]");
    }

    static void promise28Nobody() {
        LineChoice x = Due.with("12:0-2-1-3-2", 2);
        E.tells("no riders", x, x.ridden(0), "0 [0, 0]");
        x.riders(0, 5);
        x.out(0, true);
        E.tells("out", x, x.ridden(0), "0 [0, 0]");
    }

    static void promise28EachTime() {
        LineChoice x = anew(1);
        E.tells("one who boards anew", x, x.ridden(0), "2 [1, 0]");
    }

    // ---- 29

    static void promise29Place() {
        E.takesHalts((x, line, p) -> x.boardings(line, p));
        E.tellsRow(1, x -> x.boardings(0, 7));
    }

    static void promise29FirstAndLast() {
        LineChoice x = Edges.twelve();
        E.tells("nobody alights at the first", x, x.boardings(0, 0), "10 [0]");
        E.tells("between", x, x.boardings(0, 6), "10 [0]");
        E.tells("nobody boards at the last", x, x.boardings(0, 7), "0 [70]");
        LineChoice y = anew(1000);
        E.tells("alight and board anew", y, y.boardings(0, 1), "984 [1000]");
    }

    // ---- 30

    static void promise30NoLines() {
        LineChoice x = new LineChoice();
        E.tells("new", x, x.total(), "0 [0, 0]");
        x.riders(0, 5);
        E.tells("riders of the goal", x, x.total(), "0 [0, 0]");
        x.riders(1, 6);
        E.tells("stranded", x, x.total(), "0 [6, 0]");
    }

    static void promise30Stranded() {
        LineChoice x = Due.with(THREE, 1, 5, 6, 7);
        // (3000 + 1500) / 3 = 1500
        E.tells("those of 2", x, x.total(), "7500 [7, 2500]");
        LineChoice y = closedGoal();
        E.tells("all but those of the closed goal", y, y.total(), "0 [12, 0]");
    }

    static void promise30BeyondAnInt() {
        LineChoice x = crowded();
        long total = 9999L * (7 * 6000 + 28 * 9900);
        long riding = 9999L * 9900 * 28;
        E.is("beyond an int", total > Edges.MOST && riding > Edges.MOST, true);
        E.tells("greatest", x, x.total(), total + " [19998, " + riding + "]");
    }

    // ---- 31

    static void promise31NoLines() {
        E.refuses("none", -2, LineChoice::new, LineChoice::fullest);
        LineChoice x = Due.with("5:0-1-1", 1);
        E.tells("one", x, x.fullest(), "0 [0]");
        x.drops(0);
        E.tells("none again", x, x.fullest(), "-2 [0]");
    }

    static void promise31OfEqualOnesTheFirst() {
        LineChoice x = Due.with("12:5-2-2;12:0-2-1-3-2", 2, 5, 0, 0, 0, 0, 5);
        E.tells("equal lines", x, x.fullest(), "0 [5]");
        x.riders(5, 4);
        E.tells("equal steps", x, x.fullest(), "100 [5]");
        x.riders(1, 1);
        E.tells("the second step", x, x.fullest(), "101 [6]");
    }

    static void promise31LastStepOfTheLastLine() {
        LineChoice x = Due.with("9:8-2-7;".repeat(11) + "10:0-1-1-1-2-1-3-1-4-1-5-1-6-1-7", 7);
        x.riders(6, 1);
        E.tells("line 11, step 6", x, x.fullest(), "1106 [1]");
    }

    // ---- 32

    static void promise32NoneAtTheGoal() {
        E.is("no lines", new LineChoice().changes(), 0);
        E.is("all straight", Due.with(THREE, 1, 5).changes(), 0);
        E.is("one", Due.with("10:0-5-1;20:1-5-2", 2, 1).changes(), 1);
        E.is("nobody", Due.with("10:0-5-1;20:1-5-2", 2, 0, 5).changes(), 0);
        E.tellsNoRow(LineChoice::changes);
    }

    static void promise32AtTheFirstAndTheLastStop() {
        for (int stop : new int[] {0, 9}) {
            LineChoice x = Due.with("10:5-5-" + stop + ";20:" + stop + "-5-6", 6, 0, 0, 0, 0, 0, 3);
            E.is("at " + stop, x.changes(), 3);
            E.is("again", x.changes(), 3);
            E.tells("who pass", x, x.passes(stop), "3 [3]");
        }
    }

    static void promise32TheSameOneAnew() {
        E.is("anew", anew(1).changes(), 1);
        E.is("all of them", anew(9999).changes(), 9999);
    }

    static void promise32EachTime() {
        LineChoice x = Due.with(CostsTest.CHAIN, 9, 9999, 9999, 9999, 9999, 9999, 9999, 9999, 9999, 9999, 9999);
        E.is("one to eight rides more", x.changes(), 9999 * 36);
    }
}
