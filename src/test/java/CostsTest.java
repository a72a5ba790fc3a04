/** Promises 15 to 25: COSTS in ROUNDS and SETS. WAITING 50 makes 3000 by F. */
public final class CostsTest {
    private static final Due DUE = new Due("CostsTest");
    /** A change at 1, and a slow LINE past it. */
    private static final String CHANGE = "10:0-5-1;20:1-5-2;5:0-30-2";
    /** Nine LINES one behind the other, from 0 to 9. */
    static final String CHAIN = "10:0-1-1;10:1-1-2;10:2-1-3;10:3-1-4;10:4-1-5;10:5-1-6;10:6-1-7;10:7-1-8;10:8-1-9";

    public static void main(String[] args) {
        changeAtAStop();
        setsByRisingOnes();
        likeAndCut();
        alightsWhereLike();
        sameLineAnew();
        outAndClosed();
        closedGoal();
        chain();
        placesGoAlong();
        eachFindsByItself();
        greatest();
        noSuch();
        rowStays();
        DUE.close();
    }

    private static void changeAtAStop() {
        LineChoice x = Due.with(CHANGE, 2);
        DUE.is("15 one ride", x, x.cost(1), "650 [20, 1]");
        DUE.is("15 two rides", x, x.cost(0), "1450 [10, 1]");
        DUE.is("15 goal", x, x.cost(2), "0 [0, 0]");
        DUE.is("15 none", x, x.cost(3), "-2 [0, 0]");
        DUE.is("16", x, x.rounds(), "3 [3]");
        DUE.is("17 of 0", x, x.chosen(0), "1 [0]");
        DUE.is("17 of 1", x, x.chosen(1), "2 [1]");
        DUE.is("17 of goal", x, x.chosen(2), "0 []");
        DUE.is("17 without cost", x, x.chosen(7), "0 []");
        DUE.is("18 in the set", x, x.boarding(0, 0), "1150 [1]");
        DUE.is("18 not in it", x, x.boarding(2, 0), "3000 [0]");
        DUE.is("18 last stop", x, x.boarding(0, 1), "-1 [0]");
        DUE.is("19 alights at its last", x, x.aboard(0, 1), "650 [1]");
        DUE.is("19 at its first, better ride on", x, x.aboard(0, 0), "1150 [0]");
        DUE.is("19 at its first, better change", x, x.aboard(2, 0), "1450 [1]");
        DUE.is("20", x, x.worst(), "0 [1450]");
        DUE.is("21 of 0", x.wait(0), 300);
        DUE.is("21 of 1", x.wait(1), 150);
        DUE.is("21 goal", x.wait(2), -2);
        DUE.is("21 none", x.wait(3), -2);
        DUE.is("22 of 0", x.boards(0), 2000);
        DUE.is("22 of 1", x.boards(1), 1000);
        DUE.is("22 goal", x.boards(2), 0);
        DUE.is("22 none", x.boards(3), -2);
        DUE.is("23 in the set", x.slack(0, 0), 0);
        DUE.is("23 not in it", x.slack(2, 0), 1551);
        DUE.is("24 all", x, x.reach(1450), "3 [7]");
        DUE.is("24 less", x, x.reach(1449), "2 [6]");
        DUE.is("24 only the goal", x, x.reach(0), "1 [4]");
        DUE.is("24 most", x, x.reach(Integer.MAX_VALUE), "3 [7]");
        DUE.is("25 to 1", x, x.between(0, 1), "800 [2]");
        DUE.is("25 none", x, x.between(2, 0), "-2 [2]");
        DUE.is("25 itself", x, x.between(7, 7), "0 [1]");
        DUE.is("25 as it is", x, x.between(0, 2), "1450 [3]");
        DUE.is("25 goal stays", x.count(2), 2);
        x.waiting(7);
        DUE.is("15 waiting 7", x, x.cost(1), "521 [20, 1]");
        DUE.is("21 cut", x.wait(1), 21);
        DUE.is("11 of count: in no set", x.count(11), 4);
        DUE.is("12 of count", x.count(12), 7);
    }

    private static void setsByRisingOnes() {
        // 500, 900, 1000 and 1500; each is taken as long as it is less than what the others make.
        LineChoice x = Due.with("2:0-15-1;2:0-9-1;2:0-5-1;2:0-10-1", 1);
        // (3000 + 1000) / 2 = 2000, (4000 + 1800) / 4 = 1450, (5800 + 2000) / 6 = 1300; 1500 is not less.
        DUE.is("15", x, x.cost(0), "1300 [6, 3]");
        DUE.is("17 as taken", x, x.chosen(0), "14 [2, 1, 3]");
        DUE.is("21", x.wait(0), 500);
        DUE.is("23", x.slack(0, 0), 201);
        DUE.is("23 taken last", x.slack(3, 0), 0);
        x.often(2, 20);
        // (3000 + 10000) / 20 = 650: the first one that is not less ends it.
        DUE.is("15 a set of one", x, x.cost(0), "650 [20, 1]");
        DUE.is("17 a set of one", x, x.chosen(0), "4 [2]");
        // BOARDS of a mixed set: half of them change once more. 1: 3000/10 + 500 = 800.
        LineChoice y = Due.with("1:0-10-2;3:0-5-1;10:1-5-2", 2);
        // boardings 1000 and 1300: 3000 + 1000 = 4000; 1300 < 4000: (4000 + 3900) / 4 = 1975
        DUE.is("15 mixed", y, y.cost(0), "1975 [4, 2]");
        DUE.is("22 mixed", y.boards(0), 1750);
        y.often(1, 2);
        DUE.is("22 cut", y.boards(0), 1666);
    }

    private static void likeAndCut() {
        LineChoice x = Due.with("10:0-5-1;10:0-5-1", 1);
        DUE.is("17 like ones by lines", x, x.chosen(0), "3 [0, 1]");
        DUE.is("15 like ones", x, x.cost(0), "650 [20, 2]");
        // 5940 / 59 is 100 and a part: 200 is less than 200.67.., but not less than that cut.
        LineChoice y = Due.with("59:0-1-1;10:0-2-1", 1);
        y.waiting(99);
        DUE.is("17 cut", y, y.chosen(0), "1 [0]");
        DUE.is("15 cut", y, y.cost(0), "200 [59, 1]");
        DUE.is("23 like the cost", y.slack(1, 0), 1);
        y.waiting(100);
        // 6000 / 59 is 101: 200 is less than 201; (6000 + 5900 + 2000) / 69 is 201.4
        DUE.is("17 one more", y, y.chosen(0), "3 [0, 1]");
        DUE.is("15 one more", y, y.cost(0), "201 [69, 2]");
    }

    private static void alightsWhereLike() {
        LineChoice x = Due.with("6:0-5-1-2-2;60:1-1-2", 2);
        x.waiting(100);
        DUE.is("15 at 1", x, x.cost(1), "200 [60, 1]");
        DUE.is("18 not less", x, x.boarding(0, 1), "200 [0]");
        DUE.is("19 like ones", x, x.aboard(0, 1), "200 [1]");
        DUE.is("15 at 0", x, x.cost(0), "1700 [6, 1]");
        DUE.is("22 it changes", x.boards(0), 2000);
        DUE.is("23 by one", x.slack(0, 1), 1);
        x.often(1, 59);
        // 6000 / 59 is 101: 201 at 1, where 200 is less than 201, so both are taken.
        DUE.is("19 less", x, x.aboard(0, 1), "200 [0]");
        DUE.is("22 it stays", x.boards(0), 1000);
    }

    private static void sameLineAnew() {
        // Both lines of 1 are taken and make 500.98, cut 500, which is like riding on: it alights and boards anew.
        LineChoice x = Due.with("60:0-5-1-5-2;1:1-5-2", 2);
        x.waiting(1);
        DUE.is("15 anew", x, x.cost(1), "500 [61, 2]");
        DUE.is("19 anew", x, x.aboard(0, 1), "500 [1]");
        DUE.is("18 anew", x, x.boarding(0, 1), "500 [1]");
        DUE.is("15 anew, from 0", x, x.cost(0), "1001 [60, 1]");
        DUE.is("22 anew", x.boards(0), 2000);
    }

    private static void outAndClosed() {
        LineChoice x = Due.with("10:0-5-1-5-2;10:0-20-2", 2);
        DUE.is("15 as it is", x, x.cost(0), "1300 [10, 1]");
        x.closes(1, true);
        DUE.is("15 past a closed stop", x, x.cost(0), "1300 [10, 1]");
        DUE.is("15 of a closed stop", x, x.cost(1), "-2 [10, 1]");
        DUE.is("18 at a closed stop", x, x.boarding(0, 1), "500 [0]");
        DUE.is("19 at a closed stop", x, x.aboard(0, 1), "500 [0]");
        DUE.is("23 at a closed stop", x.slack(0, 1), -2);
        DUE.is("16 closed has none", x, x.rounds(), "2 [2]");
        x.closes(1, false);
        x.out(0, true);
        DUE.is("15 by the other", x, x.cost(0), "2300 [10, 1]");
        DUE.is("15 without a line", x, x.cost(1), "-2 [10, 1]");
        DUE.is("18 of one that is out", x, x.boarding(0, 0), "1000 [0]");
        DUE.is("19 of one that is out", x, x.aboard(0, 1), "500 [0]");
        DUE.is("23 of one that is out", x.slack(0, 0), -2);
        // A closed stop where one would change: nobody alights there.
        LineChoice y = Due.with(CHANGE, 2);
        y.closes(1, true);
        DUE.is("15 the slow one", y, y.cost(0), "3600 [5, 1]");
        DUE.is("18 of a line that ends there", y, y.boarding(0, 0), "-2 [5, 1]");
        DUE.is("19 at its closed end", y, y.aboard(0, 1), "-2 [5, 1]");
        DUE.is("23 no boarding", y.slack(0, 0), -2);
        // At the GOAL itself.
        LineChoice z = Due.with("10:0-5-1-5-2", 1);
        DUE.is("18 none behind the goal", z.boarding(0, 1), -2);
        z.goal(2);
        DUE.is("23 of a line at the goal", Due.with("10=0-5-1", 1).slack(1, 0), -2);
        DUE.is("18 of a line at the goal", Due.with("10=0-5-1", 1).boarding(1, 0), 1300);
    }

    private static void closedGoal() {
        LineChoice x = Due.with(CHANGE, 2, 10, 20, 30);
        x.closes(2, true);
        DUE.is("16 closed goal", x, x.rounds(), "1 [0]");
        DUE.is("15 closed goal", x.cost(2), -2);
        DUE.is("15 to a closed goal", x.cost(0), -2);
        DUE.is("17 closed goal", x, x.chosen(0), "0 []");
        DUE.is("20 closed goal", x.worst(), -2);
        DUE.is("22 closed goal", x.boards(2), -2);
        DUE.is("24 closed goal", x, x.reach(5), "0 [0]");
        DUE.is("25 closed goal", x.between(2, 2), -2);
        DUE.is("27 closed goal", x, x.passes(2), "30 [0]");
        DUE.is("30 closed goal", x, x.total(), "0 [30, 0]");
        DUE.is("46 closed goal", x.uses(2, 0), -2);
        DUE.is("51 closed goal", x.journey(2, 0), -2);
        DUE.is("52 closed goal", x.usual(2, 1), -2);
        DUE.is("12 of count, closed goal", x.count(12), 0);
    }

    private static void chain() {
        LineChoice x = Due.with(CHAIN, 9);
        DUE.is("16 chain", x, x.rounds(), "10 [10]");
        DUE.is("15 chain", x, x.cost(0), "3600 [10, 1]");
        DUE.is("22 chain", x.boards(0), 9000);
        DUE.is("20 chain", x, x.worst(), "0 [3600]");
        DUE.is("24 chain", x, x.reach(1200), "4 [960]");
        DUE.is("25 chain", x, x.between(3, 5), "800 [6]");
    }

    private static void placesGoAlong() {
        // At 1 the second LINE is the better one, and 1 is another place of each: 700 and 400, then 800 / 20.
        LineChoice x = Due.with("10:0-5-1-7-2;10:5-1-4-1-1-4-2;5:1-99-2", 2, 0, 40);
        DUE.is("17", x, x.chosen(1), "2 [1]");
        x.waiting(100);
        DUE.is("17 both", x, x.chosen(1), "3 [1, 0]");
        DUE.is("15 both", x, x.cost(1), "850 [20, 2]");
        DUE.is("26 of the first", x.load(0, 1), 20);
        DUE.is("26 ahead of 1", x.load(0, 0), 0);
        DUE.is("26 of the second", x.load(1, 2), 20);
        DUE.is("26 of the second, ahead of 1", x.load(1, 1), 0);
        DUE.is("51 place of the first", x, x.journey(1, 201), 299 + 700 + " [0, 2]");
    }

    /** Each call on an object of which nothing was asked since it was changed. */
    private static void eachFindsByItself() {
        DUE.is("15 alone", Due.with(CHANGE, 2).cost(0), 1450);
        DUE.is("16 alone", Due.with(CHANGE, 2).rounds(), 3);
        DUE.is("17 alone", Due.with(CHANGE, 2).chosen(0), 1);
        DUE.is("18 alone", Due.with(CHANGE, 2).boarding(0, 0), 1150);
        DUE.is("19 alone", Due.with(CHANGE, 2).aboard(0, 0), 1150);
        DUE.is("20 alone", Due.with(CHANGE, 2).worst(), 0);
        DUE.is("21 alone", Due.with(CHANGE, 2).wait(0), 300);
        DUE.is("22 alone", Due.with(CHANGE, 2).boards(0), 2000);
        DUE.is("23 alone", Due.with(CHANGE, 2).slack(2, 0), 1551);
        DUE.is("24 alone", Due.with(CHANGE, 2).reach(650), 2);
        DUE.is("25 alone", Due.with(CHANGE, 2).between(0, 1), 800);
        DUE.is("26 alone", Due.with(CHANGE, 2, 5).load(1, 0), 5);
        DUE.is("27 alone", Due.with(CHANGE, 2, 5).passes(1), 5);
        DUE.is("28 alone", Due.with(CHANGE, 2, 5).ridden(1), 5);
        DUE.is("29 alone", Due.with(CHANGE, 2, 5).boardings(1, 0), 5);
        DUE.is("30 alone", Due.with(CHANGE, 2, 5).total(), 7250);
        DUE.is("31 alone", Due.with(CHANGE, 2, 0, 5).fullest(), 100);
        DUE.is("32 alone", Due.with(CHANGE, 2, 5).changes(), 5);
        DUE.is("46 alone", Due.with(CHANGE, 2).uses(0, 1), 1000);
        DUE.is("51 alone", Due.with(CHANGE, 2).journey(0, 0), 1100);
        DUE.is("52 alone", Due.with(CHANGE, 2).usual(0, 1), 1100);
        DUE.is("53 alone, 11", Due.with(CHANGE, 2).count(11), 4);
        DUE.is("53 alone, 12", Due.with(CHANGE, 2).count(12), 7);
        LineChoice x = Due.with("10:3-5-4;10=0-5-1", 1);
        DUE.is("53 line 0 in no set", x.count(11), 5);
        DUE.is("22 before", x.boards(0), 1000);
        x.goal(0);
        DUE.is("22 of the new goal", x.boards(0), 0);
        DUE.is("22 to the new goal", x.boards(1), 1000);
        DUE.is("25 there", x.between(0, 1), 800);
        DUE.is("25 then as it was", x.cost(0), 0);
    }

    private static void greatest() {
        LineChoice x = Due.with("10:4-5-1;10:3-5-1;10:2-4-1", 1);
        DUE.is("20 of equal ones the first", x, x.worst(), "3 [800]");
        DUE.is("20 none but the goal", new LineChoice().worst(), -2);
        x.goal(9);
        DUE.is("20 none but the goal, with lines", x, x.worst(), "-2 [800]");
    }

    private static void noSuch() {
        LineChoice x = Due.with(CHANGE, 2);
        for (int bad : new int[] {-1, 10, Integer.MIN_VALUE, Integer.MAX_VALUE}) {
            DUE.is("15 no such", x.cost(bad), -1);
            DUE.is("17 no such", x.chosen(bad), -1);
            DUE.is("18 no such line", x.boarding(bad, 0), -1);
            DUE.is("18 no such place", x.boarding(0, bad), -1);
            DUE.is("19 no such line", x.aboard(bad, 0), -1);
            DUE.is("19 no such place", x.aboard(0, bad), -1);
            DUE.is("21 no such", x.wait(bad), -1);
            DUE.is("22 no such", x.boards(bad), -1);
            DUE.is("23 no such line", x.slack(bad, 0), -1);
            DUE.is("23 no such place", x.slack(0, bad), -1);
            DUE.is("25 no such stop", x.between(bad, 0), -1);
            DUE.is("25 no such goal", x.between(0, bad), -1);
        }
        DUE.is("18 a line too far", x.boarding(3, 0), -1);
        DUE.is("19 behind its last", x.aboard(0, 2), -1);
        DUE.is("23 the last one", x.slack(0, 1), -1);
        DUE.is("24 below 0", x.reach(-1), -1);
    }

    private static void rowStays() {
        LineChoice x = Due.with(CHANGE, 2);
        x.chosen(0);
        x.reach(100);
        String row = "[4]";
        x.wait(0);
        DUE.is("the row stays with wait", Due.row(x), row);
        x.boards(0);
        DUE.is("the row stays with boards", Due.row(x), row);
        x.slack(0, 0);
        DUE.is("the row stays with slack", Due.row(x), row);
        x.reach(-1);
        DUE.is("the row stays with NONE", Due.row(x), row);
        x.cost(9);
        DUE.is("the row stays with -2", Due.row(x), row);
        x.waiting(9);
        x.goal(1);
        DUE.is("the row stays with calls that set", Due.row(x), row);
    }
}
