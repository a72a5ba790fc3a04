/** Promises 39 to 48: what would be. */
public final class WhatIfTest {
    private static final Due DUE = new Due("WhatIfTest");
    /** Two like LINES; COST at 0 is (3000 + 5000 + 5000) / 20 = 650, with one of them 800. */
    private static final String TWO = "10:0-5-1;10:0-5-1";

    public static void main(String[] args) {
        without();
        shut();
        more();
        best();
        towards();
        slower();
        skips();
        uses();
        centre();
        spare();
        noSuch();
        DUE.close();
    }

    private static void without() {
        LineChoice x = Due.with(TWO, 1, 10);
        DUE.is("39", x, x.without(1), "8000 [1500, 0]");
        DUE.is("39 nothing is out", x.count(8), 0);
        x.out(0, true);
        DUE.is("39 it is out", x, x.without(0), "-2 [1500, 0]");
        DUE.is("39 the last one", x, x.without(1), "0 [-8000, 10]");
        DUE.is("39 only one is out", x.count(8), 1);
    }

    private static void shut() {
        LineChoice x = Due.with(TWO, 1, 10, 20);
        DUE.is("40 their stop", x, x.shut(0), "0 [-6500, 10]");
        DUE.is("40 the goal", x, x.shut(1), "0 [-6500, 10]");
        DUE.is("40 another", x, x.shut(9), "6500 [0, 0]");
        DUE.is("40 nothing is closed", x.count(7), 0);
        x.closes(9, true);
        DUE.is("40 it is closed", x, x.shut(9), "-2 [0, 0]");
    }

    private static void more() {
        LineChoice x = Due.with(TWO, 1, 10);
        DUE.is("41 more", x, x.more(0, 10), "6000 [-500, 0]");
        DUE.is("41 less", x, x.more(0, -9), "7720 [1220, 0]");
        DUE.is("41 none", x, x.more(0, 0), "6500 [0, 0]");
        DUE.is("41 to 0", x, x.more(0, -10), "-1 [0, 0]");
        DUE.is("41 to 60", x, x.more(0, 50), "5420 [-1080, 0]");
        DUE.is("41 to 61", x, x.more(0, 51), "-1 [-1080, 0]");
        DUE.is("41 frequency stays", x.line(0, 0), 10);
        x.often(0, 1);
        DUE.is("41 by 59", x.more(0, 59), 5420);
        DUE.is("41 by 60", x.more(0, 60), -1);
        x.often(0, 60);
        DUE.is("41 by -59", x.more(0, -59), 7720);
        DUE.is("41 by -60", x.more(0, -60), -1);
        DUE.is("41 by most", x.more(0, Integer.MAX_VALUE), -1);
        DUE.is("41 by least", x.more(0, Integer.MIN_VALUE), -1);
    }

    private static void best() {
        LineChoice x = Due.with(TWO, 1, 10);
        DUE.is("42 of equal ones the first", x, x.best(10), "0 [-500]");
        DUE.is("42 to 60", x, x.best(50), "0 [-1080]");
        DUE.is("42 none can", x, x.best(51), "-2 [-1080]");
        DUE.is("42 0", x, x.best(0), "-1 [-1080]");
        DUE.is("42 60", x, x.best(60), "-1 [-1080]");
        LineChoice one = Due.with("1:0-5-1", 1, 1);
        // 3500, then 3000 / 60 + 500
        DUE.is("42 59", one, one.best(59), "0 [-2950]");
        x.out(0, true);
        DUE.is("42 not one that is out", x, x.best(10), "1 [-1500]");
        x.out(1, true);
        DUE.is("42 all are out", x, x.best(1), "-2 [-1500]");
        x.out(0, false);
        x.often(0, 60);
        x.out(1, false);
        DUE.is("42 not one that can't", x, x.best(1), "1 [0]");
        // More often is not always for the better one: 0 has 10 riders, 2 has 30.
        LineChoice y = Due.with("10:0-5-1;10:2-5-1", 1, 10, 0, 30);
        DUE.is("42 the best is not the first", y, y.best(10), "1 [-4500]");
        DUE.is("42 frequency stays", y.line(1, 0), 10);
        DUE.is("42 no lines", new LineChoice().best(1), -2);
    }

    private static void towards() {
        LineChoice x = Due.with("10=0-5-1", 1, 10, 20, 3);
        DUE.is("43 other end", x, x.towards(0), "16000 [8000, 3]");
        DUE.is("43 as it is", x, x.towards(1), "8000 [0, 3]");
        DUE.is("43 far away", x, x.towards(2), "0 [-8000, 30]");
        DUE.is("43 goal stays", x.count(2), 1);
    }

    private static void slower() {
        LineChoice x = Due.with("10:0-5-1", 1, 10);
        DUE.is("44 more", x, x.slower(0, 0, 3), "11000 [3000, 0]");
        DUE.is("44 less", x, x.slower(0, 0, -4), "4000 [-4000, 0]");
        DUE.is("44 to 0", x, x.slower(0, 0, -5), "-1 [-4000, 0]");
        DUE.is("44 to 99", x, x.slower(0, 0, 94), "102000 [94000, 0]");
        DUE.is("44 to 100", x, x.slower(0, 0, 95), "-1 [94000, 0]");
        DUE.is("44 none", x, x.slower(0, 0, 0), "8000 [0, 0]");
        DUE.is("44 most", x.slower(0, 0, Integer.MAX_VALUE), -1);
        DUE.is("44 least", x.slower(0, 0, Integer.MIN_VALUE), -1);
        DUE.is("44 last stop is no step", x.slower(0, 1, 1), -1);
        DUE.is("44 minutes stay", x, x.stop(0, 0), "0 [5, 0]");
        x.riders(5, 4);
        DUE.is("44 stranded", x, x.slower(0, 0, 1), "9000 [1000, 4]");
    }

    private static void skips() {
        LineChoice x = Due.with("10:0-5-1-5-2", 2, 10, 5);
        DUE.is("45", x, x.skips(0, 1), "13000 [-4000, 5]");
        DUE.is("45 first", x, x.skips(0, 0), "-1 [-4000, 5]");
        DUE.is("45 last", x, x.skips(0, 2), "-1 [-4000, 5]");
        DUE.is("45 none such", x.skips(0, 3), -1);
        x.crowd(500);
        x.settles(1);
        String before = Due.state(x);
        // extras 10 and 15: 300 + 1025
        DUE.is("45 time of both", x, x.skips(0, 1), "13250 [-4075, 5]");
        DUE.is("45 the line stays", Due.state(x), before);
        // Nobody changes at a stop that it goes by.
        LineChoice y = Due.with("10:0-5-1-50-2-1-3;20:1-5-2", 2, 10);
        DUE.is("45 with a change", y, y.total(), "14500 [0, 10000]");
        DUE.is("45 without it", y, y.skips(0, 1), "58000 [43500, 0]");
        DUE.is("45 goes by the goal", y, y.skips(0, 2), "14500 [0, 0]");
        // 0, 1, 2, 3, 4 by 1, 2, 3, 4 minutes; 10 at 0, 100 at 2, 1000 at 3: costs 1300, 1000, 700.
        LineChoice z = Due.with("10:0-1-1-2-2-3-3-4-4", 4, 10, 0, 100, 1000);
        z.crowd(50);
        z.settles(1);
        // extras 1, 1, 11, 111: costs 1424, 1122, 811
        DUE.is("45 as it is", z, z.total(), "937440 [0, " + (10 * 101 + 10 * 201 + 110 * 311 + 1110 * 511) + "]");
        DUE.is("45 the second", z, z.skips(0, 1), "937440 [0, 0]");
        DUE.is("45 the third", z, z.skips(0, 2), "825240 [-112200, 100]");
        DUE.is("45 the fourth", z, z.skips(0, 3), "126440 [-811000, 1000]");
        DUE.is("45 it halts there again", z, z.cost(3), "811 [10, 1]");
        DUE.is("45 two stops have none between", y.skips(1, 0), -1);
        y.goal(3);
        String all = Due.state(y);
        y.skips(0, 2);
        DUE.is("45 the way stays", Due.state(y), all);
    }

    private static void uses() {
        LineChoice x = Due.with("10:0-5-1;20:1-5-2", 2, 77, 88);
        DUE.is("46 first", x, x.uses(0, 0), "1000 [1000]");
        DUE.is("46 second", x, x.uses(0, 1), "1000 [1000]");
        DUE.is("46 not", x, x.uses(1, 0), "0 [0]");
        DUE.is("46 goal", x, x.uses(2, 0), "0 [0]");
        DUE.is("46 no cost", x, x.uses(3, 0), "-2 [0]");
        DUE.is("46 riders stay", x.count(3), 165);
        DUE.is("46 riders of 0 stay", x.riders(0, 77), 77);
        LineChoice y = Due.with("60:0-5-1-5-2;1:1-5-2", 2);
        y.waiting(1);
        DUE.is("46 each time one does", y, y.uses(0, 0), "1984 [1000]");
        DUE.is("46 the others", y, y.uses(0, 1), "16 [1000]");
    }

    private static void centre() {
        LineChoice x = Due.with("10=0-5-1", 5, 10, 20);
        DUE.is("47 least total", x, x.centre(), "1 [8000, 0]");
        DUE.is("47 goal stays", x.count(2), 5);
        x.riders(1, 10);
        DUE.is("47 of these the first", x, x.centre(), "0 [8000, 0]");
        x.riders(1, 20);
        x.closes(1, true);
        DUE.is("47 least stranded first", x, x.centre(), "1 [0, 10]");
        DUE.is("47 nobody", new LineChoice().centre(), 0);
        // 2 strands nobody but costs more than 0, where 2's riders are stranded.
        LineChoice y = Due.with("1:0-90-2", 0, 10, 0, 1);
        DUE.is("47 stranded is ahead of total", y, y.centre(), "2 [120000, 0]");
    }

    private static void spare() {
        LineChoice x = Due.with("10:0-5-1;10:0-30-1;10:0-30-1;5:0-90-1", 1, 10);
        DUE.is("48 those in no set", x, x.spare(), "14 [3]");
        x.out(2, true);
        DUE.is("48 not those that are out", x, x.spare(), "10 [2]");
        DUE.is("48 the others are not out", x.count(8), 4);
        // Any one of the three can go, but then no further one.
        LineChoice y = Due.with("60:0-5-1;60:0-5-1;60:0-5-1", 1, 10);
        y.waiting(1);
        DUE.is("48 out from then on", y, y.spare(), "1 [1]");
        DUE.is("48 only so long as it is asked", y.count(8), 0);
        // Without line 1 TOTAL stays, as 1500 go with one rider at 3 and 1500 come at 0, but one is STRANDED.
        LineChoice z = Due.with("10:0-5-1;10:3-7-0-5-1", 1, 10, 0, 0, 1);
        DUE.is("39 total stays", z, z.without(1), "8000 [0, 1]");
        DUE.is("48 stranded does not", z, z.spare(), "0 [0]");
        DUE.is("48 nobody rides", Due.with(TWO, 1).spare(), 3);
        DUE.is("48 no lines", new LineChoice().spare(), 0);
    }

    private static void noSuch() {
        LineChoice x = Due.with("10:0-5-1-5-2", 2, 10, 5);
        for (int bad : new int[] {-1, 10, Integer.MIN_VALUE, Integer.MAX_VALUE}) {
            DUE.is("39 no such", x.without(bad), -1);
            DUE.is("40 no such", x.shut(bad), -1);
            DUE.is("41 no such", x.more(bad, 1), -1);
            DUE.is("43 no such", x.towards(bad), -1);
            DUE.is("44 no such line", x.slower(bad, 0, 1), -1);
            DUE.is("44 no such step", x.slower(0, bad, 1), -1);
            DUE.is("45 no such line", x.skips(bad, 1), -1);
            DUE.is("45 no such stop", x.skips(0, bad), -1);
            DUE.is("46 no such stop", x.uses(bad, 0), -1);
            DUE.is("46 no such line", x.uses(0, bad), -1);
        }
        DUE.is("46 NONE ahead of -2", x.uses(9, 1), -1);
    }
}
