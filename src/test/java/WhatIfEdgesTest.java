/** The boundaries that promises 39 to 48 name: what would be. */
public final class WhatIfEdgesTest {
    private static final Edges E = new Edges("WhatIfEdgesTest");
    /** Two like LINES; COST at 0 is (3000 + 5000 + 5000) / 20 = 650, with one of them 800. */
    private static final String TWO = "10:0-5-1;10:0-5-1";

    public static void main(String[] args) throws IllegalAccessException {
        E.runAll(WhatIfEdgesTest.class);
    }

    /** One LINE from 0 to 1, the GOAL, with a ROW and a text, ten RIDERS at 0. */
    private static LineChoice one(int frequency, int minutes) {
        LineChoice x = Due.with(frequency + ":0-" + minutes + "-1", 1, 10);
        x.total();
        return Due.tell(x, Edges.TEXT);
    }

    private static LineChoice two(int... riders) {
        return Due.with(TWO, 1, riders);
    }

    private static LineChoice allOut() {
        LineChoice x = two(10);
        x.out(0, true);
        x.out(1, true);
        return x;
    }

    // ---- 39

    static void promise39Line() {
        E.takesLines((x, line) -> x.without(line));
        E.tellsRow(2, x -> x.without(0));
    }

    static void promise39ItIsOut() {
        E.refuses("out", -2, x -> x.without(3));
        LineChoice x = two(10);
        x.out(1, true);
        E.is("out", x.without(1), -2);
        x.out(1, false);
        E.is("not out", x.without(1), 8000);
    }

    static void promise39OneOfTwoAndTheLastOne() {
        LineChoice x = two(10);
        E.tells("one of two", x, x.without(0), "8000 [1500, 0]");
        x.out(0, true);
        E.tells("the last one", x, x.without(1), "0 [-8000, 10]");
        E.is("only that one is out", x.count(8), 1);
    }

    static void promise39OneThatNobodyTakes() {
        LineChoice x = Due.with("10:0-5-1;10:0-99-1", 1, 10);
        E.tells("no difference", x, x.without(1), "8000 [0, 0]");
    }

    // ---- 40

    static void promise40Stop() {
        E.takesStops((x, stop) -> x.shut(stop));
        E.tellsRow(2, x -> x.shut(0));
    }

    static void promise40ItIs() {
        E.refuses("closed", -2, x -> x.shut(6));
        LineChoice x = two(10);
        x.closes(0, true);
        E.is("closed", x.shut(0), -2);
        x.closes(0, false);
        E.is("open", x.shut(0), 0);
    }

    static void promise40Goal() {
        LineChoice x = two(10, 20, 30);
        E.tells("the goal", x, x.shut(1), "0 [-6500, 40]");
        E.tells("their stop", x, x.shut(0), "0 [-6500, 40]");
        E.tells("one that is stranded", x, x.shut(2), "6500 [0, 30]");
        E.is("nothing is closed", x.count(7), 0);
    }

    // ---- 41

    static void promise41Line() {
        E.takesLines((x, line) -> x.more(line, 1));
        E.refuses("no line, no k", -1, x -> x.more(5, 60));
        E.tellsRow(2, x -> x.more(0, 1));
    }

    static void promise41FromOneToSixtyThen() {
        E.takes(() -> one(1, 5), 0, 59, (x, k) -> x.more(0, k));
        E.takes(() -> one(2, 5), -1, 58, (x, k) -> x.more(0, k));
        E.takes(() -> one(30, 5), -29, 30, (x, k) -> x.more(0, k));
        E.takes(() -> one(59, 5), -58, 1, (x, k) -> x.more(0, k));
        E.takes(() -> one(60, 5), -59, 0, (x, k) -> x.more(0, k));
    }

    static void promise41Totals() {
        LineChoice x = one(10, 5);
        E.tells("to 1", x, x.more(0, -9), "35000 [27000, 0]");
        E.tells("as it is", x, x.more(0, 0), "8000 [0, 0]");
        E.tells("to 60", x, x.more(0, 50), "5500 [-2500, 0]");
        E.is("it stays", x.line(0, 0), 10);
    }

    static void promise41OneThatIsOut() {
        LineChoice x = two(10);
        x.out(0, true);
        E.tells("out", x, x.more(0, 50), "8000 [0, 0]");
    }

    // ---- 42

    static void promise42Numbers() {
        E.takes(() -> one(1, 5), 1, 59, (x, k) -> x.best(k));
        E.tellsRow(1, x -> x.best(1));
    }

    static void promise42NoneCan() {
        E.is("59 and 1", one(59, 5).best(1), 0);
        E.refuses("60 and 1", -2, () -> one(60, 5), x -> x.best(1));
        E.refuses("59 and 2", -2, () -> one(59, 5), x -> x.best(2));
        E.refuses("2 and 59", -2, () -> one(2, 5), x -> x.best(59));
        E.refuses("no lines", -2, LineChoice::new, x -> x.best(1));
        E.refuses("all are out", -2, WhatIfEdgesTest::allOut, x -> x.best(1));
    }

    static void promise42NoneOtherK() {
        E.refuses("0 without lines", -1, LineChoice::new, x -> x.best(0));
        E.refuses("60, all out", -1, WhatIfEdgesTest::allOut, x -> x.best(60));
    }

    static void promise42OfEqualOnesTheFirst() {
        LineChoice x = two(10);
        E.tells("equal", x, x.best(10), "0 [-500]");
        x.often(0, 60);
        E.tells("one that can't", x, x.best(10), "1 [-50]");
        x.often(0, 10);
        x.out(0, true);
        E.tells("one that is out", x, x.best(10), "1 [-1500]");
        LineChoice y = Due.with("10:0-5-1;10:2-5-1", 1, 10, 0, 10);
        E.tells("like riders", y, y.best(10), "0 [-1500]");
        y.riders(2, 11);
        E.tells("one rider more", y, y.best(10), "1 [-1650]");
    }

    static void promise42NoRiders() {
        LineChoice x = two();
        E.tells("nothing to be gained", x, x.best(1), "0 [0]");
    }

    // ---- 43

    static void promise43Stop() {
        E.takesStops((x, stop) -> x.towards(stop));
        E.tellsRow(2, x -> x.towards(0));
    }

    static void promise43Goals() {
        LineChoice x = two(10, 20, 30);
        E.tells("as it is", x, x.towards(1), "6500 [0, 30]");
        E.tells("none leads there", x, x.towards(0), "0 [-6500, 50]");
        E.tells("no line at all", x, x.towards(2), "0 [-6500, 30]");
        x.closes(0, true);
        E.tells("closed", x, x.towards(0), "0 [0, 50]");
        E.is("the goal stays", x.count(2), 1);
    }

    // ---- 44

    static void promise44Step() {
        E.takesSteps((x, line, p) -> x.slower(line, p, 1));
        E.refuses("no step, no k", -1, x -> x.slower(0, 2, 100));
        E.tellsRow(2, x -> x.slower(0, 0, 1));
    }

    static void promise44FromOneToNinetyNineThen() {
        E.takes(() -> one(10, 1), 0, 98, (x, k) -> x.slower(0, 0, k));
        E.takes(() -> one(10, 2), -1, 97, (x, k) -> x.slower(0, 0, k));
        E.takes(() -> one(10, 50), -49, 49, (x, k) -> x.slower(0, 0, k));
        E.takes(() -> one(10, 98), -97, 1, (x, k) -> x.slower(0, 0, k));
        E.takes(() -> one(10, 99), -98, 0, (x, k) -> x.slower(0, 0, k));
    }

    static void promise44Totals() {
        LineChoice x = one(10, 5);
        x.riders(2, 3);
        E.tells("to 1", x, x.slower(0, 0, -4), "4000 [-4000, 3]");
        E.tells("as it is", x, x.slower(0, 0, 0), "8000 [0, 3]");
        E.tells("to 99", x, x.slower(0, 0, 94), "102000 [94000, 3]");
        E.tells("it stays", x, x.stop(0, 0), "0 [5, 0]");
    }

    // ---- 45

    static void promise45NeitherFirstNorLast() {
        E.takes(Edges::twelve, 1, 6, (x, p) -> x.skips(0, p));
        E.refuses("the first of eight", -1, Edges::twelve, x -> x.skips(0, 0));
        E.refuses("the last of eight", -1, Edges::twelve, x -> x.skips(0, 7));
        E.takes(Edges::busy, 1, 1, (x, p) -> x.skips(0, p));
        E.refuses("the first of two", -1, x -> x.skips(1, 0));
        E.refuses("the last of two", -1, x -> x.skips(1, 1));
        E.tellsRow(2, x -> x.skips(0, 1));
    }

    static void promise45Line() {
        for (int line : new int[] {-1, 5, 11, 12, Edges.LEAST, Edges.MOST}) {
            E.refuses("line " + line, -1, x -> x.skips(line, 1));
        }
        E.refuses("no lines", -1, LineChoice::new, x -> x.skips(0, 1));
    }

    static void promise45OneStepBeyondTheMostMinutes() {
        LineChoice x = Due.with("10:0-99-1-99-2", 2, 10);
        E.tells("198 minutes", x, x.skips(0, 1), "201000 [0, 0]");
        x.crowd(9999);
        x.seats(0, 1);
        x.riders(0, 9999);
        x.often(0, 1);
        x.settles(1);
        long cost = 3000 + 2 * 109900;
        E.tells("extras of both", x, x.skips(0, 1), 9999 * cost + " [0, 0]");
    }

    static void promise45UnlikeSteps() {
        // 0, 1, 2, 3, 4 by 1, 2, 3, 4 minutes, EXTRAS 1, 1, 11, 111: COSTS 1424, 1323, 1122, 811.
        String[] want = {"937440 [0, 0]", "825240 [-112200, 100]", "126440 [-811000, 1000]"};
        for (int p = 1; p <= 3; p++) {
            LineChoice x = Due.with("10:0-1-1-2-2-3-3-4-4", 4, 10, 0, 100, 1000);
            x.crowd(50);
            x.settles(1);
            E.tells("without " + p, x, x.skips(0, p), want[p - 1]);
        }
    }

    static void promise45BehindTheOneThatIsSkipped() {
        // Those of 3 ride 7 minutes to 6, whichever of 1, 2 is skipped; 5 is where the LINE ends.
        LineChoice x = Due.with("10:0-1-1-2-2-3-3-7-6-9-5", 6, 10, 0, 0, 10);
        long cost = 300 + 1300;
        long other = 300 + 700;
        E.tells("1", x, x.skips(0, 1), 10 * (cost + other) + " [0, 0]");
        E.tells("2", x, x.skips(0, 2), 10 * (cost + other) + " [0, 0]");
        E.tells("3", x, x.skips(0, 3), 10 * cost + " [" + -10 * other + ", 10]");
        E.tells("the goal", x, x.skips(0, 4), "0 [" + -10 * (cost + other) + ", 20]");
    }

    static void promise45EachStopOfEight() {
        String before = Edges.all(Edges.twelve());
        for (int p = 1; p <= 6; p++) {
            LineChoice x = Edges.twelve();
            long now = x.total();
            // Each of the ten at STOP p has 300 to wait and 100 a STEP to ride.
            long gone = 10 * (300 + 100 * (7 - p));
            E.tells("without " + p, x, x.skips(0, p), now - gone + " [" + -gone + ", 20]");
            x.total();
            E.is("it halts there still, " + p, Edges.all(x), before);
        }
    }

    static void promise45TheGoal() {
        LineChoice x = Due.with("10:0-5-1-5-2", 1, 10);
        E.tells("goes by the goal", x, x.skips(0, 1), "0 [-8000, 10]");
    }

    static void promise45OneThatIsOut() {
        LineChoice x = Due.with("10:0-5-1-5-2", 2, 10);
        x.out(0, true);
        E.tells("out", x, x.skips(0, 1), "0 [0, 10]");
    }

    // ---- 46

    static void promise46StopAndLine() {
        E.takesStops((x, stop) -> x.uses(stop, 0));
        E.takesLines((x, line) -> x.uses(0, line));
        E.tellsRow(1, x -> x.uses(0, 0));
    }

    static void promise46NoCost() {
        E.refuses("no line", -2, x -> x.uses(3, 0));
        E.refuses("closed", -2, x -> x.uses(6, 0));
        E.refuses("NONE comes first", -1, x -> x.uses(3, 5));
        E.refuses("a closed goal", -2, () -> {
            LineChoice x = two(10);
            x.closes(1, true);
            return x;
        }, x -> x.uses(1, 0));
    }

    static void promise46Goal() {
        LineChoice x = two(10);
        E.tells("nobody boards there", x, x.uses(1, 0), "0 [0]");
    }

    static void promise46ThousandByThree() {
        LineChoice x = Due.with("1:0-5-1;1:0-5-1;1:0-5-1", 1, 9999);
        int[] want = {334, 333, 333};
        for (int i = 0; i < want.length; i++) {
            E.tells("line " + i, x, x.uses(0, i), want[i] + " [0]");
        }
        E.is("riders stay", x.count(3), 9999);
    }

    static void promise46EachTime() {
        LineChoice x = Due.with("60:0-5-1-5-2;1:1-5-2", 2);
        x.waiting(1);
        E.tells("anew", x, x.uses(0, 0), "1984 [1000]");
        E.tells("from 1", x, x.uses(1, 0), "984 [0]");
        LineChoice chain = Due.with(CostsTest.CHAIN, 9);
        E.tells("nine rides", chain, chain.uses(0, 8), "1000 [8000]");
    }

    // ---- 47

    static void promise47OfTheseTheFirst() {
        LineChoice x = new LineChoice();
        E.tells("no riders", x, x.centre(), "0 [0, 0]");
        x.riders(0, 5);
        x.riders(1, 5);
        E.tells("like ones", x, x.centre(), "0 [0, 5]");
        x.riders(1, 6);
        E.tells("one stranded less", x, x.centre(), "1 [0, 5]");
        E.tellsRow(2, LineChoice::centre);
    }

    static void promise47LeastTotal() {
        LineChoice x = Due.with("10=0-5-1", 5, 10, 10);
        E.tells("like totals", x, x.centre(), "0 [8000, 0]");
        x.riders(1, 11);
        E.tells("one rider more", x, x.centre(), "1 [8000, 0]");
        x.riders(0, 12);
        E.tells("two riders more", x, x.centre(), "0 [8800, 0]");
        E.is("the goal stays", x.count(2), 5);
    }

    static void promise47StrandedComesFirst() {
        LineChoice x = Due.with("10:0-99-9", 0, 9999);
        E.tells("all at 0", x, x.centre(), "0 [0, 0]");
        x.riders(9, 1);
        // 300 and 9900
        E.tells("one at 9", x, x.centre(), "9 [" + 9999L * 10200 + ", 0]");
    }

    static void promise47AClosedOne() {
        LineChoice x = Due.with("10=0-5-1", 0, 10, 20);
        x.closes(1, true);
        E.tells("its riders are not stranded as goal", x, x.centre(), "1 [0, 10]");
    }

    // ---- 48

    static void promise48NoLines() {
        LineChoice x = new LineChoice();
        E.tells("none", x, x.spare(), "0 [0]");
        E.tellsRow(1, LineChoice::spare);
    }

    static void promise48NoRiders() {
        LineChoice x = Due.with("5:0-10-1" + ";5:0-10-1".repeat(11), 1);
        E.tells("all twelve", x, x.spare(), "4095 [12]");
        E.is("none is out", x.count(8), 0);
        x.riders(0, 1);
        E.tells("with one rider", x, x.spare(), "0 [0]");
    }

    static void promise48NotThoseThatAreOut() {
        LineChoice x = allOut();
        E.tells("all are out", x, x.spare(), "0 [0]");
        E.is("they are out still", x.count(8), 3);
        x.out(1, false);
        E.tells("one is not", x, x.spare(), "0 [0]");
        x.riders(0, 0);
        E.tells("nobody rides", x, x.spare(), "2 [1]");
        E.is("the first one is out still", x.count(8), 1);
    }

    static void promise48OutFromThenOn() {
        // With three, two, one of them COST is 500, 500, 501.
        LineChoice x = Due.with("60:0-5-1;60:0-5-1;60:0-5-1", 1, 10);
        x.waiting(1);
        E.tells("only the first", x, x.spare(), "1 [1]");
        x.out(0, true);
        E.tells("no further one", x, x.spare(), "0 [0]");
    }

    static void promise48TotalAndStranded() {
        LineChoice x = Due.with("10:0-5-1;10:3-7-0-5-1", 1, 10, 0, 0, 1);
        E.tells("total stays, stranded does not", x, x.spare(), "0 [0]");
        x.riders(3, 0);
        E.tells("total does not", x, x.spare(), "0 [0]");
        x.riders(0, 0);
        E.tells("both stay", x, x.spare(), "3 [2]");
    }
}
