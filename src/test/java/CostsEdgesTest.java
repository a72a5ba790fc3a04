/** The boundaries that promises 15 to 25 name: COSTS, SETS. WAITING 50 makes 3000 by F. */
public final class CostsEdgesTest {
    private static final Edges E = new Edges("CostsEdgesTest");
    /** A change at 1, and a slow LINE past it: COSTS 1450, 650, 0 to GOAL 2. */
    private static final String CHANGE = "10:0-5-1;20:1-5-2;5:0-30-2";
    /** N by F at 0 is 100 and 60 w by 59; the second LINE's BOARDING is 200. */
    private static final String NEAR = "59:0-1-1;10:0-2-1";
    /** COST at 1 is 100 and 60 w by the second one's FREQUENCY; riding on from there is 200. */
    private static final String PAST = "6:0-5-1-2-2;60:1-1-2";

    public static void main(String[] args) throws IllegalAccessException {
        E.runAll(CostsEdgesTest.class);
    }

    private static LineChoice waiting(int w, String text, int goal) {
        LineChoice x = Due.with(text, goal);
        x.waiting(w);
        return x;
    }

    private static LineChoice change() {
        return Due.with(CHANGE, 2, 5, 6, 7, 8);
    }

    private static LineChoice closedGoal() {
        LineChoice x = change();
        x.closes(2, true);
        return x;
    }

    // ---- 15

    static void promise15Stop() {
        E.takesStops((x, stop) -> x.cost(stop));
        E.tellsRow(2, x -> x.cost(0));
    }

    static void promise15Goal() {
        LineChoice x = Edges.twelve();
        E.tells("of the goal", x, x.cost(7), "0 [0, 0]");
        x.goal(3);
        E.tells("of another goal", x, x.cost(3), "0 [0, 0]");
        LineChoice y = new LineChoice();
        E.tells("without lines", y, y.cost(0), "0 [0, 0]");
    }

    static void promise15None() {
        E.refuses("no line leads on", -2, x -> x.cost(3));
        E.refuses("no line leads to the goal", -2, x -> x.cost(4));
        E.refuses("it is closed", -2, x -> x.cost(6));
        E.refuses("without lines", -2, LineChoice::new, x -> x.cost(1));
        E.refuses("the goal is closed", -2, CostsEdgesTest::closedGoal, x -> x.cost(2));
        E.refuses("to a closed goal", -2, CostsEdgesTest::closedGoal, x -> x.cost(1));
    }

    static void promise15FurtherOneIfLess() {
        int[] w = {98, 99, 100};
        String[] want = {"199 [59, 1]", "200 [59, 1]", "201 [69, 2]"};
        for (int i = 0; i < w.length; i++) {
            LineChoice x = waiting(w[i], NEAR, 1);
            E.tells("waiting " + w[i], x, x.cost(0), want[i]);
        }
    }

    static void promise15FirstOneWhateverItIs() {
        LineChoice x = waiting(1, "60:0-99-1", 1);
        E.tells("60 by 60", x, x.cost(0), "9901 [60, 1]");
        LineChoice y = waiting(100, "1:0-1-1", 1);
        E.tells("6000 by 1", y, y.cost(0), "6100 [1, 1]");
    }

    static void promise15TheFirstThatIsNotEndsIt() {
        // 100, 300, 300, 200 at 0: (3000 + 3000) / 30 = 200; 200 is not less.
        LineChoice x = Due.with("30:0-1-1;1:0-3-1;60:0-3-1;60:0-2-1", 1);
        E.tells("like it", x, x.cost(0), "200 [30, 1]");
        x.often(0, 29);
        // 103 and 100: 203, so 200 is taken: (3000 + 2900 + 12000) / 89 = 201
        E.tells("less", x, x.cost(0), "201 [89, 2]");
    }

    static void promise15Cut() {
        E.is("59", waiting(1, "59:0-1-1", 1).cost(0), 101);
        E.is("60", waiting(1, "60:0-1-1", 1).cost(0), 101);
        E.is("31", waiting(1, "31:0-1-1", 1).cost(0), 101);
        E.is("30", waiting(1, "30:0-1-1", 1).cost(0), 102);
        E.is("29", waiting(1, "29:0-1-1", 1).cost(0), 102);
    }

    static void promise15TwelveLines() {
        LineChoice x = Due.with("5:0-10-1" + ";5:0-10-1".repeat(11), 1);
        E.tells("all of them", x, x.cost(0), "1050 [60, 12]");
        x.out(11, true);
        E.tells("but one", x, x.cost(0), "1054 [55, 11]");
    }

    static void promise15Greatest() {
        LineChoice x = waiting(100, "1:0-99-1-99-2-99-3-99-4-99-5-99-6-99-7", 7);
        E.tells("seven steps", x, x.cost(0), "75300 [1, 1]");
        x.crowd(9999);
        x.seats(0, 1);
        x.riders(0, 9999);
        x.settles(1);
        E.tells("with the greatest extras", x, x.cost(0), "775300 [1, 1]");
    }

    // ---- 16

    static void promise16TheOneThatChangesNothingCounts() {
        LineChoice none = new LineChoice();
        E.tells("no lines", none, none.rounds(), "1 [1]");
        LineChoice away = Due.with("5:1-1-2", 0);
        E.tells("no line to the goal", away, away.rounds(), "1 [1]");
        LineChoice one = Due.with("5:1-1-0", 0);
        E.tells("one ride", one, one.rounds(), "2 [2]");
        LineChoice two = change();
        E.tells("two rides", two, two.rounds(), "3 [3]");
        LineChoice out = Due.with("5:1-1-0", 0);
        out.out(0, true);
        E.tells("all lines out", out, out.rounds(), "1 [1]");
    }

    static void promise16ClosedGoal() {
        LineChoice x = closedGoal();
        E.tells("closed", x, x.rounds(), "1 [0]");
    }

    static void promise16NineRides() {
        LineChoice x = Due.with(CostsTest.CHAIN, 9);
        E.tells("to the last one", x, x.rounds(), "10 [10]");
        x.goal(8);
        E.tells("to the one ahead", x, x.rounds(), "9 [9]");
        x.goal(0);
        E.tells("to the first one", x, x.rounds(), "1 [1]");
    }

    static void promise16ACostThatFallsLater() {
        // 0 rides straight for 3300 at first, by 1 for 1450 one round later.
        LineChoice x = Due.with("10:0-30-2;10:0-5-1;20:1-5-2", 2);
        E.tells("rounds", x, x.rounds(), "3 [3]");
        E.tells("the set of the last one", x, x.chosen(0), "2 [1]");
    }

    // ---- 17

    static void promise17Stop() {
        E.takesStops((x, stop) -> x.chosen(stop));
    }

    static void promise17Without() {
        LineChoice x = Edges.busy();
        for (int stop : new int[] {2, 3, 4, 6, 9}) {
            E.tells("of " + stop, x, x.chosen(stop), "0 []");
        }
        LineChoice y = closedGoal();
        E.tells("to a closed goal", y, y.chosen(0), "0 []");
    }

    static void promise17LikeOnesByLines() {
        LineChoice x = Due.with("5:0-10-1" + ";5:0-10-1".repeat(11), 1);
        E.tells("twelve", x, x.chosen(0), "4095 [0, 1, 2, 3, 4, 5, 6, 7, 8, 9, 10, 11]");
        LineChoice y = Due.with("2:0-11-1;2:0-10-1;2:0-10-1;2:0-9-1", 1);
        E.tells("rising", y, y.chosen(0), "15 [3, 1, 2, 0]");
    }

    static void promise17FurtherOneIfLess() {
        String[] want = {"1 [0]", "1 [0]", "3 [0, 1]"};
        for (int i = 0; i < want.length; i++) {
            LineChoice x = waiting(98 + i, NEAR, 1);
            E.tells("waiting " + (98 + i), x, x.chosen(0), want[i]);
        }
    }

    // ---- 18

    static void promise18NotTheLastOne() {
        E.takesSteps((x, line, p) -> x.boarding(line, p));
        E.tellsRow(1, x -> x.boarding(0, 6));
    }

    static void promise18None() {
        E.refuses("it does not lead to the goal", -2, x -> x.boarding(4, 0));
        E.refuses("a closed goal", -2, CostsEdgesTest::closedGoal, x -> x.boarding(1, 0));
        LineChoice x = Due.with("5:0-1-1-1-2-1-3", 1);
        E.is("ahead of the goal", x.boarding(0, 0), 100);
        E.is("at the goal, none behind it", x.boarding(0, 1), -2);
        E.is("behind the goal", x.boarding(0, 2), -2);
    }

    static void promise18NoneAtItsClosedEnd() {
        LineChoice x = change();
        E.tells("open", x, x.boarding(0, 0), "1150 [1]");
        x.closes(1, true);
        E.tells("closed", x, x.boarding(0, 0), "-2 [1]");
    }

    static void promise18OutOrClosedThere() {
        LineChoice x = Edges.busy();
        E.tells("out", x, x.boarding(3, 0), "2000 [0]");
        LineChoice y = change();
        E.tells("open", y, y.boarding(1, 0), "500 [1]");
        y.closes(1, true);
        E.tells("closed", y, y.boarding(1, 0), "500 [0]");
    }

    static void promise18InTheSetOrNot() {
        String[] want = {"200 [0]", "200 [0]", "200 [1]"};
        for (int i = 0; i < want.length; i++) {
            LineChoice x = waiting(98 + i, NEAR, 1);
            E.tells("waiting " + (98 + i), x, x.boarding(1, 0), want[i]);
        }
        LineChoice goal = Due.with("5=0-1-1", 0);
        E.tells("at the goal", goal, goal.boarding(0, 0), "800 [0]");
    }

    // ---- 19

    static void promise19Place() {
        E.takesHalts((x, line, p) -> x.aboard(line, p));
        E.tellsRow(1, x -> x.aboard(0, 0));
    }

    static void promise19AlightsWhereLike() {
        int[] w = {99, 100};
        String[] want = {"199 [1]", "200 [1]"};
        for (int i = 0; i < w.length; i++) {
            LineChoice x = waiting(w[i], PAST, 2);
            E.tells("waiting " + w[i], x, x.aboard(0, 1), want[i]);
        }
        LineChoice x = waiting(100, PAST, 2);
        x.often(1, 59);
        E.is("cost is one more", x.cost(1), 201);
        E.tells("one more", x, x.aboard(0, 1), "200 [0]");
    }

    static void promise19LastOne() {
        LineChoice x = change();
        E.tells("cost of it", x, x.aboard(0, 1), "650 [1]");
        E.tells("the goal", x, x.aboard(1, 1), "0 [1]");
        x.closes(1, true);
        E.tells("none at a closed one", x, x.aboard(0, 1), "-2 [1]");
    }

    static void promise19None() {
        E.refuses("neither is there", -2, x -> x.aboard(4, 0));
        E.refuses("nor at its end", -2, x -> x.aboard(4, 1));
        E.refuses("a closed goal", -2, CostsEdgesTest::closedGoal, x -> x.aboard(1, 1));
        LineChoice x = Due.with("5:0-1-1-1-2", 1);
        E.tells("only to ride on", x, x.aboard(0, 0), "100 [0]");
        E.tells("only to alight", x, x.aboard(0, 1), "0 [1]");
        E.tells("behind the goal", x, x.aboard(0, 2), "-2 [1]");
    }

    static void promise19PastAClosedOne() {
        LineChoice x = waiting(99, PAST, 2);
        x.closes(1, true);
        E.tells("ride on", x, x.aboard(0, 1), "200 [0]");
    }

    // ---- 20

    static void promise20OfEqualOnesTheFirst() {
        LineChoice x = Due.with("10:9-5-1;10:8-5-1;10:0-5-1", 1);
        E.tells("equal", x, x.worst(), "0 [800]");
        x.out(2, true);
        E.tells("equal, too", x, x.worst(), "8 [800]");
        x.out(1, true);
        E.tells("one", x, x.worst(), "9 [800]");
    }

    static void promise20GreaterByOne() {
        LineChoice x = waiting(1, "60:0-5-1;60:2-5-1", 1);
        E.tells("501 and 501", x, x.worst(), "0 [501]");
        x.often(1, 30);
        E.tells("501 and 502", x, x.worst(), "2 [502]");
    }

    static void promise20NoneButTheGoal() {
        E.refuses("no lines", -2, LineChoice::new, LineChoice::worst);
        E.refuses("a closed goal", -2, CostsEdgesTest::closedGoal, LineChoice::worst);
        E.refuses("a line out", -2, () -> {
            LineChoice x = Due.with("5:0-1-1", 1);
            x.out(0, true);
            return x;
        }, LineChoice::worst);
    }

    // ---- 21

    static void promise21Stop() {
        E.takesStops((x, stop) -> x.wait(stop));
        E.tellsNoRow(x -> x.wait(0));
    }

    static void promise21NoCostOrTheGoal() {
        E.refuses("the goal", -2, x -> x.wait(2));
        E.refuses("no cost", -2, x -> x.wait(3));
        E.refuses("closed", -2, x -> x.wait(6));
        E.refuses("a closed goal", -2, CostsEdgesTest::closedGoal, x -> x.wait(2));
    }

    static void promise21Cut() {
        E.is("60 by 59", waiting(1, "58:0-1-1;1:0-1-1", 1).wait(0), 1);
        E.is("60 by 60", waiting(1, "59:0-1-1;1:0-1-1", 1).wait(0), 1);
        E.is("60 by 61", waiting(1, "60:0-1-1;1:0-1-1", 1).wait(0), 0);
        E.is("6000 by 1", waiting(100, "1:0-1-1", 1).wait(0), 6000);
    }

    // ---- 22

    static void promise22Stop() {
        E.takesStops((x, stop) -> x.boards(stop));
        E.tellsNoRow(x -> x.boards(0));
    }

    static void promise22GoalAndNoCost() {
        E.is("the goal", Edges.busy().boards(2), 0);
        E.is("the goal without lines", new LineChoice().boards(0), 0);
        E.refuses("no cost", -2, x -> x.boards(3));
        E.refuses("closed", -2, x -> x.boards(6));
        E.refuses("a closed goal", -2, CostsEdgesTest::closedGoal, x -> x.boards(2));
    }

    static void promise22Cut() {
        // 1300 by a change at 1, 1000 straight: one of three changes, or two of three, or three of four.
        LineChoice x = Due.with("2:0-10-2;1:0-5-1;10:1-5-2", 2);
        E.is("4000 by 3", x.boards(0), 1333);
        x.often(0, 1);
        E.is("3000 by 2", x.boards(0), 1500);
        x.often(1, 2);
        E.is("5000 by 3", x.boards(0), 1666);
    }

    static void promise22NineRides() {
        LineChoice x = Due.with(CostsTest.CHAIN, 9);
        E.is("nine", x.boards(0), 9000);
        E.is("one", x.boards(8), 1000);
        E.is("none", x.boards(9), 0);
    }

    static void promise22WhereItAlightsFirst() {
        E.is("it changes where both are like", waiting(100, PAST, 2).boards(0), 2000);
        LineChoice x = waiting(100, PAST, 2);
        x.often(1, 59);
        E.is("one more, so it rides on", x.boards(0), 1000);
    }

    static void promise22OfANewGoal() {
        LineChoice x = Due.with("10=0-5-1", 1);
        E.is("to 1", x.boards(0) + " " + x.boards(1), "1000 0");
        x.goal(0);
        E.is("to 0", x.boards(0) + " " + x.boards(1), "0 1000");
    }

    // ---- 23

    static void promise23NotTheLastOne() {
        E.takesSteps((x, line, p) -> x.slack(line, p));
        E.tellsNoRow(x -> x.slack(0, 0));
    }

    static void promise23ByHowMuch() {
        E.is("one more than the cost", waiting(98, NEAR, 1).slack(1, 0), 2);
        E.is("like the cost", waiting(99, NEAR, 1).slack(1, 0), 1);
        E.is("less, so in the set", waiting(100, NEAR, 1).slack(1, 0), 0);
        E.is("the first one", waiting(98, NEAR, 1).slack(0, 0), 0);
    }

    static void promise23None() {
        E.refuses("no boarding", -2, x -> x.slack(4, 0));
        E.refuses("the stop is the goal", -2, x -> x.slack(2, 0));
        E.refuses("the line is out", -2, x -> x.slack(3, 0));
        E.refuses("no cost, as it is closed", -2, () -> {
            LineChoice x = Edges.busy();
            x.closes(1, true);
            x.total();
            return x;
        }, x -> x.slack(1, 0));
    }

    // ---- 24

    static void promise24BelowZero() {
        E.refuses("-1", -1, x -> x.reach(-1));
        E.refuses("the least", -1, x -> x.reach(Edges.LEAST));
        LineChoice x = change();
        E.tells("the most", x, x.reach(Edges.MOST), "3 [7]");
        E.tells("0", x, x.reach(0), "1 [4]");
        E.tells("1", x, x.reach(1), "1 [4]");
        E.tells("-1", x, x.reach(-1), "-1 [4]");
    }

    static void promise24OfTOrLess() {
        LineChoice x = change();
        E.tells("one less", x, x.reach(649), "1 [4]");
        E.tells("like it", x, x.reach(650), "2 [6]");
        E.tells("one more", x, x.reach(651), "2 [6]");
        E.tells("one less than the last", x, x.reach(1449), "2 [6]");
        E.tells("the last", x, x.reach(1450), "3 [7]");
    }

    static void promise24Nowhere() {
        LineChoice x = closedGoal();
        E.tells("a closed goal", x, x.reach(Edges.MOST), "0 [0]");
        LineChoice y = Due.with(CostsTest.CHAIN, 9);
        E.tells("all ten", y, y.reach(3600), "10 [1023]");
    }

    // ---- 25

    static void promise25Stops() {
        E.takesStops((x, stop) -> x.between(stop, 2));
        E.takesStops((x, goal) -> x.between(0, goal));
        E.tellsRow(1, x -> x.between(0, 7));
    }

    static void promise25None() {
        E.refuses("the other way", -2, x -> x.between(2, 0));
        E.refuses("from a closed one", -2, x -> x.between(6, 2));
        E.refuses("to a closed one", -2, x -> x.between(0, 6));
        E.refuses("from it to itself, closed", -2, x -> x.between(6, 6));
    }

    static void promise25Itself() {
        LineChoice x = change();
        for (int i = 0; i < 10; i++) {
            E.tells("at " + i, x, x.between(i, i), i == 2 ? "0 [3]" : i == 1 ? "0 [2]" : "0 [1]");
        }
        E.is("the goal stays", x.count(2), 2);
        E.is("so do the costs", x.cost(0), 1450);
    }
}
