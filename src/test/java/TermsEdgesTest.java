/** The boundaries that the terms name: COSTS in ROUNDS, LOADS, SETTLED, TIMETABLE; the ROW, refused calls, THE TEXT. */
public final class TermsEdgesTest {
    private static final Edges E = new Edges("TermsEdgesTest");
    /** Calls that ask and tell the ROW. */
    private static final Edges.Call[] TELLING = {
        x -> x.stop(0, 0), x -> x.cost(0), x -> x.rounds(), x -> x.chosen(0), x -> x.boarding(0, 0),
        x -> x.aboard(0, 0), x -> x.worst(), x -> x.reach(5), x -> x.between(0, 2), x -> x.passes(0),
        x -> x.ridden(0), x -> x.boardings(0, 0), x -> x.total(), x -> x.fullest(), x -> x.averaged(0, 0),
        x -> x.without(0), x -> x.shut(0), x -> x.more(0, 1), x -> x.best(1), x -> x.towards(0),
        x -> x.slower(0, 0, 1), x -> x.skips(0, 1), x -> x.uses(0, 0), x -> x.centre(), x -> x.spare(),
        x -> x.journey(0, 0), x -> x.usual(0, 60),
    };
    /** Calls that ask and do not tell of the ROW. */
    private static final Edges.Call[] SILENT = {
        x -> x.line(0, 0), x -> x.wait(0), x -> x.boards(0), x -> x.slack(0, 0), x -> x.load(0, 0),
        x -> x.changes(), x -> x.comes(0, 0, 0), x -> x.count(11), x -> x.count(12), x -> x.row(0),
    };
    /** Calls that change something and do not tell of the ROW. */
    private static final Edges.Call[] SETTING = {
        x -> x.sign(0), x -> x.end(3) ? 1 : 0, x -> x.net(), x -> x.adds(), x -> x.drops(0), x -> x.waiting(1),
        x -> x.goal(1), x -> x.riders(0, 1), x -> x.out(0, true), x -> x.closes(0, true), x -> x.often(0, 1),
        x -> x.crowd(1), x -> x.seats(0, 1), x -> x.clears(), x -> x.offset(0, 1),
    };
    /** Calls that answer -2 in busy(). */
    private static final Edges.Call[] NOT_SO = {
        x -> x.out(3, true), x -> x.closes(6, true), x -> x.cost(3), x -> x.boarding(4, 0), x -> x.aboard(4, 0),
        x -> x.wait(2), x -> x.boards(3), x -> x.slack(3, 0), x -> x.between(2, 0), x -> x.without(3),
        x -> x.shut(6), x -> x.best(55), x -> x.uses(3, 0), x -> x.journey(3, 0), x -> x.usual(3, 1),
    };
    /** Calls to which NONE and -2 fit in busy(). */
    private static final Edges.Call[] BOTH = {
        x -> x.out(5, false), x -> x.closes(10, false), x -> x.cost(10), x -> x.boarding(4, 1), x -> x.aboard(4, 2),
        x -> x.wait(10), x -> x.boards(-1), x -> x.slack(3, 1), x -> x.between(3, 10), x -> x.between(-1, 3),
        x -> x.without(5), x -> x.shut(10), x -> x.best(60), x -> x.uses(3, 5), x -> x.journey(3, -1),
        x -> x.usual(3, 61),
    };

    public static void main(String[] args) throws IllegalAccessException {
        E.runAll(TermsEdgesTest.class);
    }

    private static LineChoice waiting(int w, String text, int goal, int... riders) {
        LineChoice x = Due.with(text, goal, riders);
        x.waiting(w);
        return x;
    }

    // ---- 1

    static void terms1UnlikeStopsFromTwoToEight() {
        E.is("two", Due.net(new LineChoice(), "5:8-1-9"), 1);
        E.is("eight", Due.net(new LineChoice(), "5:9-1-8-1-7-1-6-1-5-1-4-1-3-1-2"), 1);
        E.is("one", Due.net(new LineChoice(), "5:9"), -24);
        E.is("nine", Due.net(new LineChoice(), "5:9-1-8-1-7-1-6-1-5-1-4-1-3-1-2-1-1"), -52);
    }

    static void terms1TimeOfAStep() {
        LineChoice x = Due.with("10:0-99-1", 1, 100);
        E.is("100 times minutes", x.boarding(0, 0), 9900);
        x.crowd(500);
        x.settles(1);
        E.is("and its extra", x.boarding(0, 0), 10000);
    }

    static void terms1CostsAtFirst() {
        LineChoice x = new LineChoice();
        E.is("only at the goal", x.count(12), 1);
        x.goal(9);
        E.is("at another one", x.count(12), 512);
        x.closes(8, true);
        E.is("another one is closed", x.count(12), 512);
        x.closes(9, true);
        E.is("it is closed", x.count(12), 0);
    }

    static void terms1RoundsGoByCostsAhead() {
        // By numbers 0 would find the COST of 1 in the same ROUND, if it were there already; 2 has it behind it.
        LineChoice up = Due.with("10:0-5-1;10:1-5-2", 2);
        E.is("from small to great numbers", up.rounds(), 3);
        LineChoice down = Due.with("10:2-5-1;10:1-5-0", 0);
        E.is("from great to small numbers", down.rounds(), 3);
    }

    static void terms1AboardIsTheLesserOne() {
        // At 1: 60 w by 60 and 100 to change, 200 to ride on.
        String past = "6:0-5-1-2-2;60:1-1-2";
        E.is("cost is less by one", waiting(99, past, 2).aboard(0, 1), 199);
        E.is("both are like", waiting(100, past, 2).aboard(0, 1), 200);
        LineChoice x = waiting(100, past, 2);
        x.often(1, 59);
        E.is("cost is more by one", x.aboard(0, 1), 200);
    }

    static void terms1BoardingByRisingOnes() {
        LineChoice x = Due.with("2:0-12-1;2:0-11-1;2:0-10-1;2:0-11-1", 1);
        E.tells("of like ones by lines", x, x.chosen(0), "15 [2, 1, 3, 0]");
    }

    static void terms1TheFirstThatIsNotEndsIt() {
        // 100 and 60 w by 30 make 200: 200 is not less, nor what comes behind it.
        LineChoice x = Due.with("30:0-1-1;30:0-2-1;30:0-3-1", 1);
        E.tells("200", x, x.chosen(0), "1 [0]");
        x.waiting(51);
        // 202, then (3060 + 3000 + 6000) / 60 = 201: 300 is not less
        E.tells("202", x, x.chosen(0), "3 [0, 1]");
        x.waiting(49);
        E.tells("198", x, x.chosen(0), "1 [0]");
    }

    static void terms1NobodyAtAClosedOne() {
        LineChoice x = Due.with("10:0-5-1-5-2;60:1-1-2", 2, 7, 8, 9);
        E.is("they change", x.changes(), 7);
        x.closes(1, true);
        E.is("nobody alights", x.changes(), 0);
        E.is("nobody boards", x.ridden(1), 0);
        E.tells("its riders are stranded", x, x.total(), "9100 [8, 7000]");
    }

    static void terms1LoadsByFallingCost() {
        // Like COSTS at 3 and 4, from which all go by 9 to 0.
        LineChoice x = Due.with("10:3-5-9;10:4-5-9;10:9-5-0", 0, 0, 0, 0, 1, 2, 0, 0, 0, 0, 4);
        E.is("like costs", x.cost(3), x.cost(4));
        E.is("all of them", x.load(2, 0), 7);
        LineChoice y = Due.with("10:9-5-3;10:3-5-4;10:4-5-0", 0, 0, 0, 0, 1, 2, 0, 0, 0, 0, 4);
        E.is("from 9 by 3 and 4", y.load(2, 0), 7);
    }

    static void terms1LeftOverToTheFirst() {
        LineChoice x = Due.with("2:0-5-1;3:0-6-1", 1, 4);
        // 4 times 2 by 5 is 1, 4 times 3 by 5 is 2, 1 is left
        E.is("the first one", x.load(0, 0), 2);
        E.is("the other one", x.load(1, 0), 2);
        x.riders(0, 5);
        E.is("nothing is left over", x.load(0, 0) + " " + x.load(1, 0), "2 3");
        x.riders(0, 6);
        E.is("one is left over again", x.load(0, 0) + " " + x.load(1, 0), "3 3");
    }

    static void terms1StrandedButTheGoal() {
        LineChoice x = new LineChoice();
        x.riders(0, 1);
        x.riders(9, 2);
        x.total();
        E.is("those of 9", x.row(0), 2);
        x.goal(9);
        x.total();
        E.is("those of 0", x.row(0), 1);
    }

    static void terms1SettledGapBeforeItIsAveraged() {
        LineChoice x = Due.with("10:0-5-1", 1, 9);
        E.is("all of it", x.settles(1), 9);
        E.is("nothing", x.settles(1), 0);
        x.riders(0, 10);
        E.is("one", x.settles(1), 1);
        E.is("a third of one is none", x.averaged(0, 0), 9);
    }

    static void terms1SettledByLoadsAsAllIs() {
        LineChoice x = Due.with("10:0-5-1;10:0-6-1", 1, 100);
        x.out(0, true);
        E.is("a line out has none", x.settles(1), 100);
        E.is("averaged of it", x.averaged(0, 0), 0);
        E.is("averaged of the other", x.averaged(1, 0), 100);
    }

    static void terms1TimetableFromItsFirstStop() {
        LineChoice x = Due.with("10:0-5-1-5-2", 2);
        x.offset(0, 1);
        E.is("its first stop", x.comes(0, 0, 0), 100);
        E.is("its second one", x.comes(0, 1, 0), 600);
        E.is("its last one", x.comes(0, 2, 0), 1100);
    }

    // ---- 2

    static void terms2TheRowHasNoneAtFirst() {
        E.is("numbers", new LineChoice().count(9), 0);
        E.is("number 0", Due.hasNumber(new LineChoice(), 0), false);
    }

    static void terms2AskingChangesNothingButTheRow() {
        for (int i = 0; i < TELLING.length + SILENT.length; i++) {
            LineChoice x = Edges.busy();
            Edges.Call call = i < TELLING.length ? TELLING[i] : SILENT[i - TELLING.length];
            E.is("call " + i + " is below 0", call.of(x) < 0, false);
            x.total();
            E.is("call " + i, Edges.all(x), Edges.all(Edges.busy()));
        }
    }

    static void terms2TheRowIsToldAnew() {
        for (int i = 0; i < TELLING.length; i++) {
            LineChoice x = Edges.busy();
            LineChoice y = Edges.busy();
            y.chosen(2);
            TELLING[i].of(x);
            TELLING[i].of(y);
            E.is("call " + i + " tells it whatever was told before", Due.row(y), Due.row(x));
            E.is("call " + i + " tells something", x.count(9) > 0, true);
        }
    }

    static void terms2TheRowStaysWithOthers() {
        String row = Due.row(Edges.busy());
        for (int i = 0; i < SILENT.length + SETTING.length; i++) {
            LineChoice x = Edges.busy();
            Edges.Call call = i < SILENT.length ? SILENT[i] : SETTING[i - SILENT.length];
            E.is("call " + i + " is below 0", call.of(x) < 0, false);
            E.is("call " + i, Due.row(x), row);
        }
    }

    static void terms2RefusedChangesNothing() {
        for (int i = 0; i < NOT_SO.length; i++) {
            E.refuses("call " + i, -2, NOT_SO[i]);
        }
    }

    static void terms2NoneComesAheadOfTheOthers() {
        for (int i = 0; i < BOTH.length; i++) {
            E.refuses("call " + i, -1, BOTH[i]);
        }
        E.refuses("best(0) without lines", -1, LineChoice::new, x -> x.best(0));
    }

    static void terms2OnlyReadersEmptyTheText() {
        for (Edges.Call call : NOT_SO) {
            LineChoice x = Edges.busy();
            call.of(x);
            E.is("signs", x.count(10), 7);
        }
        for (String text : new String[] {"", "x", Edges.TEXT, "5:0-1-0", "0:0-1-1", "5:0-1-1;5"}) {
            LineChoice x = Due.tell(Edges.busy(), text);
            x.net();
            E.is("signs behind net of '" + text + "'", x.count(10), 0);
            LineChoice y = Due.tell(Edges.busy(), text);
            y.adds();
            E.is("signs behind adds of '" + text + "'", y.count(10), 0);
        }
    }

    static void terms2FirstSignThatCannotStand() {
        E.is("the first of two faults", Due.net(new LineChoice(), "5x0-1y1"), -22);
        E.is("the fault ahead of a told one", Due.net(new LineChoice(), "5:0x1-0"), -24);
        E.is("the told one ahead of a fault", Due.net(new LineChoice(), "5:0-1-0x"), -27);
        E.is("at 0", Due.net(new LineChoice(), "x"), -21);
        E.is("an empty text is too short for adds", new LineChoice().adds(), -21);
    }

    static void terms2NoExceptionButThatOfRow() {
        for (int i : new int[] {Edges.LEAST, -1, 0, Edges.MOST}) {
            LineChoice x = new LineChoice();
            E.is("end", x.end(i), i == 0);
            E.is("drops", x.drops(i), -1);
            E.is("stop", x.stop(i, i), -1);
            E.is("slower", x.slower(i, i, i), -1);
            E.is("comes", x.comes(i, i, i), -1);
            E.is("skips", x.skips(i, i), -1);
            E.is("more", x.more(i, i), -1);
            E.is("row", Due.hasNumber(x, i), false);
        }
    }
}
