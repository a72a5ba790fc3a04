/** Promises 26 to 32: LOADS. */
public final class LoadsTest {
    private static final Due DUE = new Due("LoadsTest");

    public static void main(String[] args) {
        withAChange();
        leftOver();
        sameLineAnew();
        throughAndOn();
        fromGreatNumbersToSmallOnes();
        fullest();
        noSuch();
        DUE.close();
    }

    private static void withAChange() {
        LineChoice x = Due.with("10:0-5-1;20:1-5-2", 2, 7, 3, 4, 0, 0, 6);
        DUE.is("26 first", x.load(0, 0), 7);
        DUE.is("26 second", x.load(1, 0), 10);
        DUE.is("27 first", x, x.passes(0), "7 [0]");
        DUE.is("27 change", x, x.passes(1), "10 [7]");
        DUE.is("27 goal", x, x.passes(2), "14 [10]");
        DUE.is("27 without a cost", x, x.passes(5), "6 [0]");
        DUE.is("27 nobody", x, x.passes(9), "0 [0]");
        DUE.is("28 first", x, x.ridden(0), "7 [7, 0]");
        DUE.is("28 second", x, x.ridden(1), "10 [10, 0]");
        DUE.is("29 board", x, x.boardings(0, 0), "7 [0]");
        DUE.is("29 alight", x, x.boardings(0, 1), "0 [7]");
        DUE.is("29 board at 1", x, x.boardings(1, 0), "10 [0]");
        DUE.is("29 alight at 2", x, x.boardings(1, 1), "0 [10]");
        DUE.is("30", x, x.total(), "12100 [6, 8500]");
        DUE.is("31", x, x.fullest(), "100 [10]");
        DUE.is("32", x.changes(), 7);
        x.goal(1);
        DUE.is("27 another goal", x, x.passes(1), "10 [7]");
        DUE.is("30 riders of the goal are not stranded", x, x.total(), "5600 [10, 3500]");
        DUE.is("32 alighting at the goal is none", x.changes(), 0);
    }

    private static void leftOver() {
        LineChoice x = Due.with("1:0-5-1;1:0-5-1;1:0-5-1", 1, 8);
        DUE.is("26 the first gets what is left", x.load(0, 0), 4);
        DUE.is("26 the second", x.load(1, 0), 2);
        DUE.is("26 the third", x.load(2, 0), 2);
        LineChoice y = Due.with("1:0-9-1;1:0-5-1", 1, 5);
        DUE.is("26 the first one taken is line 1", y.load(1, 0), 3);
        DUE.is("26 the other", y.load(0, 0), 2);
        // By frequencies: 1000 of 3 and 4 an hour: 428 and 571, and 1 is left.
        LineChoice z = Due.with("3:0-5-1;4:0-6-1", 1, 1000);
        DUE.is("26 by frequencies, first", z.load(0, 0), 429);
        DUE.is("26 by frequencies, second", z.load(1, 0), 571);
    }

    private static void sameLineAnew() {
        LineChoice x = Due.with("60:0-5-1-5-2;1:1-5-2", 2, 1000);
        x.waiting(1);
        DUE.is("26 step 0", x.load(0, 0), 1000);
        DUE.is("26 step 1", x.load(0, 1), 984);
        DUE.is("28 who boards twice counts twice", x, x.ridden(0), "1984 [1000, 0]");
        DUE.is("29 alight and board", x, x.boardings(0, 1), "984 [1000]");
        DUE.is("32 the same one anew", x.changes(), 1000);
    }

    private static void throughAndOn() {
        LineChoice x = Due.with("12:0-2-1-3-2-4-3", 3, 5, 6, 7, 8);
        DUE.is("26 step 0", x.load(0, 0), 5);
        DUE.is("26 step 1", x.load(0, 1), 11);
        DUE.is("26 step 2", x.load(0, 2), 18);
        DUE.is("28 greatest", x, x.ridden(0), "18 [18, 2]");
        DUE.is("29 between", x, x.boardings(0, 1), "6 [0]");
        DUE.is("29 last", x, x.boardings(0, 3), "0 [18]");
        DUE.is("27 goal", x, x.passes(3), "26 [18]");
        // costs 250 + 900, 250 + 700, 250 + 400
        DUE.is("30", x, x.total(), 5 * 1150 + 6 * 950 + 7 * 650 + " [0, " + (5 * 200 + 11 * 300 + 18 * 400) + "]");
        x.riders(1, 0);
        x.riders(2, 0);
        DUE.is("28 of equal ones the first step", x, x.ridden(0), "5 [5, 0]");
        x.out(0, true);
        DUE.is("28 out", x, x.ridden(0), "0 [0, 0]");
        DUE.is("30 all stranded", x, x.total(), "0 [5, 0]");
    }

    /** By falling COST, not by numbers: from 9 by 5 to 0 and 1, with changes at 5 and 0. */
    private static void fromGreatNumbersToSmallOnes() {
        LineChoice x = Due.with("10:0-1-1;10:5-1-0;10:9-1-5;10:3-1-5", 1, 1, 0, 0, 4, 0, 5, 0, 0, 0, 9);
        DUE.is("26 from 9", x.load(2, 0), 9);
        DUE.is("26 from 5", x.load(1, 0), 18);
        DUE.is("26 from 0", x.load(0, 0), 19);
        DUE.is("27 at 5", x, x.passes(5), "18 [13]");
        DUE.is("27 at 0", x, x.passes(0), "19 [18]");
        DUE.is("32", x.changes(), 31);
        DUE.is("32 again", x.changes(), 31);
        DUE.is("22", x.boards(9), 3000);
    }

    private static void fullest() {
        LineChoice x = Due.with("12:5-2-6;12:0-2-1-3-2;12:2-2-1", 2, 5, 0);
        DUE.is("31 of equal ones the first", x, x.fullest(), "100 [5]");
        x.riders(1, 1);
        DUE.is("31 second step", x, x.fullest(), "101 [6]");
        x.riders(0, 0);
        x.riders(1, 0);
        DUE.is("31 nobody", x, x.fullest(), "0 [0]");
        DUE.is("31 no lines", new LineChoice().fullest(), -2);
    }

    private static void noSuch() {
        LineChoice x = Due.with("12:0-2-1-3-2", 2, 5);
        DUE.is("26 last stop is no step", x.load(0, 2), -1);
        for (int bad : new int[] {-1, 10, Integer.MIN_VALUE, Integer.MAX_VALUE}) {
            DUE.is("26 no such line", x.load(bad, 0), -1);
            DUE.is("26 no such step", x.load(0, bad), -1);
            DUE.is("27 no such", x.passes(bad), -1);
            DUE.is("28 no such", x.ridden(bad), -1);
            DUE.is("29 no such line", x.boardings(bad, 0), -1);
            DUE.is("29 no such stop", x.boardings(0, bad), -1);
        }
        DUE.is("29 behind its last", x.boardings(0, 3), -1);
        x.total();
        String row = Due.row(x);
        x.load(0, 0);
        x.changes();
        DUE.is("the row stays with load and changes", Due.row(x), row);
    }
}
