/** Promises 33 to 38: crowds, SETTLED. */
public final class CrowdsTest {
    private static final Due DUE = new Due("CrowdsTest");

    public static void main(String[] args) {
        crowdAndSeats();
        settles();
        extraIsLimitedAndCut();
        loadsMove();
        balances();
        extrasStayTillSettled();
        DUE.close();
    }

    private static void crowdAndSeats() {
        LineChoice x = Due.with("10:0-5-1;10:0-6-1");
        DUE.is("33 was 0", x.crowd(9999), 0);
        DUE.is("33 was 9999", x.crowd(0), 9999);
        DUE.is("33 10000", x.crowd(10000), -1);
        DUE.is("33 -1", x.crowd(-1), -1);
        DUE.is("33 stays", x.count(4), 0);
        DUE.is("34 was 50", x.seats(1, 999), 50);
        DUE.is("34 was 999", x.seats(1, 1), 999);
        DUE.is("34 0", x.seats(1, 0), -1);
        DUE.is("34 1000", x.seats(1, 1000), -1);
        DUE.is("34 no line", x.seats(2, 5), -1);
        DUE.is("34 no line below", x.seats(-1, 5), -1);
        DUE.is("34 stays", x.line(1, 2), 1);
        DUE.is("34 of the other", x.line(0, 2), 50);
    }

    private static void settles() {
        LineChoice x = Due.with("10:0-5-1", 1, 100);
        x.crowd(500);
        DUE.is("35 once", x, x.settles(1), "100 [1, 90000]");
        DUE.is("37 once", x, x.averaged(0, 0), "100 [100]");
        x.riders(0, 0);
        DUE.is("35 twice", x, x.settles(1), "100 [2, 0]");
        DUE.is("37 twice", x, x.averaged(0, 0), "50 [50]");
        DUE.is("35 three times", x, x.settles(1), "50 [3, 0]");
        DUE.is("37 cut towards 0", x, x.averaged(0, 0), "34 [34]");
        DUE.is("5 of count", x.count(5), 3);
        DUE.is("35 0", x, x.settles(0), "-1 [34]");
        DUE.is("35 51", x, x.settles(51), "-1 [34]");
        DUE.is("35 refused", x.count(5), 3);
        DUE.is("38", x.clears(), 3);
        DUE.is("38 averaged", x, x.averaged(0, 0), "0 [0]");
        DUE.is("38 K", x.count(5), 0);
        DUE.is("38 again", x.clears(), 0);
        DUE.is("38 crowd stays", x.count(4), 500);
        DUE.is("35 50", x, x.settles(50), "0 [50, 0]");
        DUE.is("37 last stop is no step", x, x.averaged(0, 1), "-1 [50, 0]");
        DUE.is("37 below 0", x.averaged(0, -1), -1);
        DUE.is("37 no line", x.averaged(1, 0), -1);
        DUE.is("35 without lines", new LineChoice().settles(1), 0);
    }

    private static void extraIsLimitedAndCut() {
        LineChoice x = Due.with("1:0-5-1", 1, 9999);
        x.crowd(9999);
        x.seats(0, 1);
        // 9999 by 1 an hour: 3000 + 500 + 100000
        DUE.is("35 limited", x, x.settles(1), "9999 [1, " + 9999L * 103500 + "]");
        DUE.is("37 limited", x, x.averaged(0, 0), "9999 [100000]");
        x.settles(1);
        DUE.is("14 limited", x, x.stop(0, 0), "0 [5, 100000]");
        x.seats(0, 999);
        x.settles(1);
        // 9999 * 9999 / 999 = 100080.08..: still limited
        DUE.is("37 just limited", x, x.averaged(0, 0), "9999 [100000]");
        x.crowd(9990);
        x.settles(1);
        DUE.is("37 just not limited", x, x.averaged(0, 0), "9999 [99990]");
        LineChoice y = Due.with("10:0-5-1", 1, 100);
        y.crowd(7);
        y.settles(1);
        // 7 * 100 / (50 * 10) = 1.4
        DUE.is("37 cut", y, y.averaged(0, 0), "100 [1]");
    }

    private static void loadsMove() {
        // 0: both make (3000 + 5000 + 6000) / 20 = 700, 50 each; then 500 + 50 and 600 + 50.
        LineChoice x = Due.with("10:0-5-1;10:0-6-1", 1, 100);
        x.crowd(500);
        DUE.is("35 moves", x, x.settles(1), "100 [1, 75000]");
        // now line 0 is so slow that only the other one is taken: 3000/10 + 650 = 950, 2000 is not less
        x.crowd(9999);
        x.seats(0, 1);
        x.settles(1);
        DUE.is("37 moved", x, x.averaged(0, 0), "50 [49995]");
        DUE.is("26 moved", x.load(0, 0), 0);
        DUE.is("26 moved to", x.load(1, 0), 100);
        // Line 1 alone: 300 + 600 + 1319
        DUE.is("35 gap of both", x, x.settles(1), "100 [3, 221900]");
        DUE.is("37 averaged down", x, x.averaged(0, 0), "34 [33996]");
        DUE.is("37 averaged up", x, x.averaged(1, 0), "66 [1319]");
    }

    private static void balances() {
        LineChoice x = Due.with("10:0-5-1", 1, 100);
        DUE.is("36 till it is 0", x, x.balances(0, 10), "2 [0, 2]");
        DUE.is("36 once at least", x, x.balances(0, 10), "1 [0, 3]");
        x.clears();
        DUE.is("36 like g", x, x.balances(100, 10), "1 [100, 1]");
        x.clears();
        DUE.is("36 more than g", x, x.balances(99, 10), "2 [0, 2]");
        x.clears();
        DUE.is("36 n ends it", x, x.balances(0, 1), "1 [100, 1]");
        DUE.is("36 n 200", x, x.balances(0, 200), "1 [0, 2]");
        DUE.is("36 n 201", x, x.balances(0, 201), "-1 [0, 2]");
        DUE.is("36 n 0", x, x.balances(0, 0), "-1 [0, 2]");
        DUE.is("36 g below 0", x, x.balances(-1, 5), "-1 [0, 2]");
        DUE.is("36 refused", x.count(5), 2);
        // Average 100 at first, then it goes down by halves, thirds, .. and never reaches 0.
        x.clears();
        x.balances(0, 1);
        x.riders(0, 0);
        DUE.is("36 as often as it may", x, x.balances(0, 200), "200 [" + gapAfter(100, 2, 200) + ", 201]");
    }

    /** The last GAP of one STEP without riders, settled for the times from .. to. */
    private static int gapAfter(int average, int from, int times) {
        int left = average;
        int gap = 0;
        for (int k = from; k < from + times; k++) {
            gap = left;
            left -= left / k;
        }
        return gap;
    }

    private static void extrasStayTillSettled() {
        LineChoice x = Due.with("10:0-5-1", 1, 100);
        x.crowd(500);
        x.settles(1);
        x.crowd(0);
        x.seats(0, 1);
        x.often(0, 20);
        x.riders(0, 1);
        DUE.is("37 stays", x, x.averaged(0, 0), "100 [100]");
        DUE.is("15 with extra", x, x.cost(0), "750 [20, 1]");
        x.settles(1);
        DUE.is("37 without crowd", x, x.averaged(0, 0), "51 [0]");
        // LINES that are OUT are averaged, too.
        x.crowd(20);
        x.out(0, true);
        DUE.is("35 out", x, x.settles(1), "51 [3, 0]");
        DUE.is("37 out", x, x.averaged(0, 0), "34 [34]");
    }
}
