/** The boundaries that promises 33 to 38 name: CROWD, SEATS, SETTLED. */
public final class CrowdsEdgesTest {
    private static final Edges E = new Edges("CrowdsEdgesTest");

    public static void main(String[] args) throws IllegalAccessException {
        E.runAll(CrowdsEdgesTest.class);
    }

    private static LineChoice one(int riders) {
        return Due.with("10:0-5-1", 1, riders);
    }

    private static LineChoice settled(int c, int seats, int frequency, int riders) {
        LineChoice x = Due.with(frequency + ":0-5-1", 1, riders);
        x.crowd(c);
        x.seats(0, seats);
        x.settles(1);
        return x;
    }

    // ---- 33, 34

    static void promise33Crowd() {
        E.is("at first", new LineChoice().crowd(0), 0);
        E.sets(0, 9999, (x, c) -> x.crowd(c), x -> x.count(4));
    }

    static void promise34Seats() {
        E.is("at first", one(0).seats(0, 50), 50);
        E.sets(1, 999, (x, n) -> x.seats(0, n), x -> x.line(0, 2));
    }

    static void promise34Line() {
        E.takesLines((x, line) -> x.seats(line, 999));
        E.refuses("no line, no seats", -1, x -> x.seats(5, 1000));
    }

    // ---- 35

    static void promise35Times() {
        E.takes(Edges::busy, 1, 50, (x, n) -> x.settles(n));
        for (int n : new int[] {1, 2, 49, 50}) {
            LineChoice x = one(100);
            E.tells(n + " times", x, x.settles(n), (n == 1 ? 100 : 0) + " [" + n + ", 80000]");
            E.is("K", x.count(5), n);
        }
    }

    static void promise35NoLines() {
        LineChoice x = new LineChoice();
        E.tells("no gap", x, x.settles(1), "0 [1, 0]");
        E.tells("again", x, x.settles(50), "0 [51, 0]");
    }

    static void promise35TotalByTheExtrasThen() {
        LineChoice x = one(100);
        x.crowd(500);
        E.tells("800 and 100", x, x.settles(1), "100 [1, 90000]");
    }

    static void promise35GapIsASumOfSizes() {
        LineChoice x = Due.with("10:0-5-1;10:2-5-1", 1, 30, 0, 0);
        x.settles(1);
        x.riders(0, 20);
        x.riders(2, 10);
        E.is("10 less and 10 more", x.settles(1), 20);
    }

    static void promise35CutTowardsZero() {
        int[] riders = {7, 8, 9, 10, 11, 12, 13};
        int[] want = {9, 9, 10, 10, 10, 11, 11};
        for (int i = 0; i < riders.length; i++) {
            LineChoice x = one(10);
            x.settles(1);
            x.riders(0, riders[i]);
            E.is("gap", x.settles(1), Math.abs(riders[i] - 10));
            E.is("10, then " + riders[i], x.averaged(0, 0), want[i]);
        }
    }

    static void promise35TheFirstTimeTakesItWhole() {
        LineChoice x = one(7);
        x.settles(1);
        E.is("by 1", x.averaged(0, 0), 7);
        x.clears();
        x.riders(0, 5);
        x.settles(1);
        E.is("by 1 again", x.averaged(0, 0), 5);
    }

    static void promise35ExtraIsCut() {
        int[] c = {499, 500, 501, 999, 1000, 1001};
        int[] want = {0, 1, 1, 1, 2, 2};
        for (int i = 0; i < c.length; i++) {
            LineChoice x = settled(c[i], 50, 10, 1);
            E.tells("crowd " + c[i] + " by 500", x, x.averaged(0, 0), "1 [" + want[i] + "]");
        }
    }

    static void promise35ExtraIsHundredThousandAtMost() {
        int[] c = {123, 16, 11, 9999};
        int[] riders = {813, 6250, 9091, 9999};
        int[] want = {99999, 100000, 100000, 100000};
        for (int i = 0; i < c.length; i++) {
            LineChoice x = settled(c[i], 1, 1, riders[i]);
            E.tells(c[i] + " times " + riders[i], x, x.averaged(0, 0), riders[i] + " [" + want[i] + "]");
        }
    }

    static void promise35ExtraBySeatsAndFrequency() {
        LineChoice least = settled(9999, 999, 60, 9999);
        // 99980001 by 59940
        E.tells("the most of both", least, least.averaged(0, 0), "9999 [1668]");
        LineChoice none = settled(0, 1, 1, 9999);
        E.tells("no crowd", none, none.averaged(0, 0), "9999 [0]");
    }

    static void promise35TheRowAndKStayIfRefused() {
        LineChoice x = Edges.busy();
        String row = Due.row(x);
        x.settles(0);
        x.settles(51);
        E.is("row", Due.row(x), row);
        E.is("K", x.count(5), 2);
    }

    // ---- 36

    static void promise36Times() {
        E.takes(Edges::busy, 1, 200, (x, n) -> x.balances(0, n));
        E.refuses("n 0, g 0", -1, x -> x.balances(0, 0));
        E.refuses("n 201, g 0", -1, x -> x.balances(0, 201));
    }

    static void promise36Gap() {
        E.refuses("-1", -1, x -> x.balances(-1, 5));
        E.refuses("the least", -1, x -> x.balances(Edges.LEAST, 5));
        E.refuses("both wrong", -1, x -> x.balances(-1, 0));
        LineChoice x = one(0);
        E.tells("0", x, x.balances(0, 5), "1 [0, 1]");
        E.tells("the most", x, x.balances(Edges.MOST, 5), "1 [0, 2]");
    }

    static void promise36TillItIsGOrLess() {
        String[] want = {"2 [0, 2]", "1 [100, 1]", "1 [100, 1]"};
        for (int i = 0; i < want.length; i++) {
            LineChoice x = one(100);
            E.tells("g " + (99 + i), x, x.balances(99 + i, 10), want[i]);
        }
    }

    static void promise36OnceAtLeast() {
        LineChoice x = one(100);
        x.settles(5);
        E.tells("settled before", x, x.balances(1000, 200), "1 [0, 6]");
    }

    /** The first time takes all, then nobody rides: GAPS 100, 50, 34, 26, 21, .. that never come to 0. */
    private static LineChoice emptied() {
        LineChoice x = one(100);
        x.settles(1);
        x.riders(0, 0);
        return x;
    }

    static void promise36NTimesAtMost() {
        String[] want = {"1 [100, 2]", "2 [50, 3]", "3 [34, 4]", "4 [26, 5]", "5 [21, 6]"};
        for (int n = 1; n <= want.length; n++) {
            LineChoice x = emptied();
            E.tells("n " + n, x, x.balances(0, n), want[n - 1]);
        }
        LineChoice x = emptied();
        E.is("199", x.balances(0, 199), 199);
        LineChoice y = emptied();
        E.is("200", y.balances(0, 200), 200);
        E.is("K", y.count(5), 201);
    }

    static void promise36EndsAtTheGap() {
        int[] g = {33, 34, 35, 49, 50, 51};
        int[] want = {4, 3, 3, 3, 2, 2};
        for (int i = 0; i < g.length; i++) {
            E.is("g " + g[i], emptied().balances(g[i], 200), want[i]);
        }
    }

    // ---- 37

    static void promise37Step() {
        E.takesSteps((x, line, p) -> x.averaged(line, p));
        E.tellsRow(1, x -> x.averaged(0, 6));
    }

    static void promise37AtFirst() {
        LineChoice x = one(100);
        E.tells("0", x, x.averaged(0, 0), "0 [0]");
    }

    static void promise37EveryStep() {
        LineChoice x = Edges.twelve();
        x.crowd(500);
        x.settles(1);
        // crowd by 50 seats and 10 an hour: 1
        for (int p = 0; p < 7; p++) {
            int load = 10 * (p + 1);
            E.tells("step " + p, x, x.averaged(0, p), load + " [" + load + "]");
        }
    }

    // ---- 38

    static void promise38WhatKWas() {
        LineChoice x = new LineChoice();
        E.is("at first", x.clears(), 0);
        x.settles(1);
        E.is("1", x.clears(), 1);
        x.settles(50);
        x.settles(50);
        E.is("100", x.clears(), 100);
        E.is("again", x.clears(), 0);
    }

    static void promise38AllAreZero() {
        LineChoice x = Edges.twelve();
        x.crowd(500);
        x.settles(3);
        x.clears();
        E.is("as it was", Due.state(x), Due.state(withCrowd(Edges.twelve())));
        E.tellsNoRow(LineChoice::clears);
    }

    private static LineChoice withCrowd(LineChoice x) {
        x.crowd(500);
        return x;
    }

    static void promise38CrowdAndSeatsStay() {
        LineChoice x = Edges.busy();
        x.clears();
        E.is("crowd", x.count(4), 100);
        E.is("seats", x.line(0, 2), 10);
        E.is("offset", x.line(1, 3), 7);
        E.is("out", x.count(8), 8);
        E.is("closed", x.count(7), 64);
    }
}
