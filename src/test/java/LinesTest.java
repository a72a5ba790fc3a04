/** Promises 1 to 14: a new object, THE TEXT, LINES and STOPS. */
public final class LinesTest {
    private static final Due DUE = new Due("LinesTest");
    private static final String ONE = "5:0-1-1";

    public static void main(String[] args) {
        newObject();
        signs();
        ends();
        netsThatAreWell();
        netsThatFail();
        netsWithoutRoom();
        netStartsAnew();
        addsBehind();
        addsThatFail();
        drops();
        waitingGoalRiders();
        outAndClosed();
        oftenLineStop();
        DUE.close();
    }

    private static String times(int n, String line) {
        return String.join(";", java.util.Collections.nCopies(n, line));
    }

    private static void newObject() {
        LineChoice x = new LineChoice();
        int[] want = {0, 50, 0, 0, 0, 0, 0, 0, 0, 0, 0, 0, 1};
        for (int what = 0; what < want.length; what++) {
            DUE.is("1 count " + what, x.count(what), want[what]);
        }
        DUE.is("1 no row", Due.hasNumber(x, 0), false);
        DUE.is("1 no lines", x.line(0, 0), -1);
        DUE.is("1 NONE", LineChoice.NONE, -1);
    }

    private static void signs() {
        LineChoice x = new LineChoice();
        DUE.is("2 first", x.sign(0x353A302D), 4);
        DUE.is("2 second", x.sign(0x312D31FF), 8);
        x.end(7);
        DUE.is("2 highest byte first", x.net(), 1);
        DUE.is("2 emptied by net", x.sign(-1), 4);
        DUE.is("2 signs above 127", x.net(), -21);
        for (int i = 1; i <= 100; i++) {
            DUE.is("2 sign " + i, x.sign(i), 4 * i);
        }
        DUE.is("2 full", x.sign(0), -1);
        DUE.is("2 still full", x.count(10), 400);
        x.end(397);
        DUE.is("2 401 would be too many", x.sign(0), -1);
        DUE.is("2 refused changes nothing", x.count(10), 397);
        x.end(396);
        DUE.is("2 400 fit", x.sign(0), 400);
    }

    private static void ends() {
        LineChoice x = new LineChoice();
        DUE.is("3 of nothing", x.end(1), false);
        DUE.is("3 nothing of nothing", x.end(0), true);
        x.sign(0x353A302D);
        DUE.is("3 too many", x.end(5), false);
        DUE.is("3 below 0", x.end(-1), false);
        DUE.is("3 most", x.end(Integer.MAX_VALUE), false);
        DUE.is("3 false keeps", x.count(10), 4);
        DUE.is("3 all", x.end(4), true);
        DUE.is("3 two", x.end(2), true);
        DUE.is("3 two are there", x.count(10), 2);
        DUE.is("3 not again", x.end(3), false);
        x.sign(0x302D312D);
        x.sign(0x31000000);
        x.end(7);
        DUE.is("3 the first ones stay", x.net(), 1);
    }

    private static void netsThatAreWell() {
        LineChoice x = new LineChoice();
        DUE.is("4 empty", Due.net(x, ""), 0);
        DUE.is("4 one", Due.net(x, ONE), 1);
        DUE.is("4 both ways", Due.net(x, "5=0-1-1-2-2"), 2);
        DUE.is("4 frequency there", x.line(0, 0), 5);
        DUE.is("4 frequency back", x.line(1, 0), 5);
        DUE.is("4 there 0", x, x.stop(0, 0), "0 [1, 0]");
        DUE.is("4 there 1", x, x.stop(0, 1), "1 [2, 0]");
        DUE.is("4 there 2", x, x.stop(0, 2), "2 []");
        DUE.is("4 back 0", x, x.stop(1, 0), "2 [2, 0]");
        DUE.is("4 back 1", x, x.stop(1, 1), "1 [1, 0]");
        DUE.is("4 back 2", x, x.stop(1, 2), "0 []");
        DUE.is("4 the other way stands behind it", Due.net(x, "5:0-1-1;6=2-1-3;7:4-1-5"), 4);
        DUE.is("4 order 1", x.stop(1, 0), 2);
        DUE.is("4 order 2", x.stop(2, 0), 3);
        DUE.is("4 order 3", x.line(3, 0), 7);
        DUE.is("4 greatest numbers", Due.net(x, "60:9-99-8"), 1);
        DUE.is("4 two digits with 0", Due.net(x, "06:0-09-1"), 1);
        DUE.is("4 frequency 06", x.line(0, 0), 6);
        DUE.is("4 minutes 09", x, x.stop(0, 0), "0 [9, 0]");
        DUE.is("4 eight stops", Due.net(x, "5:0-1-1-1-2-1-3-1-4-1-5-1-6-1-7"), 1);
        DUE.is("4 eight stops are there", x.line(0, 1), 8);
        DUE.is("4 twelve", Due.net(x, times(12, ONE)), 12);
        DUE.is("4 twelve by six", Due.net(x, times(6, "5=0-1-1")), 12);
        DUE.is("4 in place of all", Due.net(x, "7:0-1-1"), 1);
        DUE.is("4 none", Due.net(x, ""), 0);
        DUE.is("4 no line left", x.line(0, 0), -1);
    }

    private static void fails(String text, int p) {
        LineChoice x = Due.with("9:8-7-6");
        x.rounds();
        String before = Due.state(x);
        x.worst();
        String row = Due.row(x);
        DUE.is("4 net of '" + text + "'", Due.net(x, text), -21 - p);
        DUE.is("4 the text is gone: '" + text + "'", x.count(10), 0);
        DUE.is("4 the row stays: '" + text + "'", Due.row(x), row);
        DUE.is("4 all stays: '" + text + "'", Due.state(x), before);
    }

    private static void netsThatFail() {
        String[] shortened = {"5", "5:", "5:0", "5:0-", "5:0-1", "5:0-1-", "5:0-1-1;", "5:0-1-1-", "5:0-12"};
        for (String text : shortened) {
            fails(text, text.length());
        }
        fails("x", 0);
        fails(" 5:0-1-1", 0);
        fails(";" + ONE, 0);
        fails(ONE + ";;" + ONE, 8);
        fails(ONE + " ", 7);
        fails(ONE + ":", 7);
        fails("5-0-1-1", 1);
        fails("5;0-1-1", 1);
        fails("555:0-1-1", 2);
        fails("5:a-1-1", 2);
        fails("5:00-1-1", 3);
        fails("5:0:1-1", 3);
        fails("5:0;", 3);
        fails("5:0-a-1", 4);
        fails("5:0--1", 4);
        fails("5:0-1:1", 5);
        fails("5:0-1-a", 6);
        fails("5:0-1-11", 7);
        fails("5:0-100-1", 6);
        fails("5=0-1-1=", 7);
        fails("0:0-1-1", 0);
        fails("00:0-1-1", 1);
        fails("001:0-1-1", 1);
        fails("61:0-1-1", 1);
        fails("99:0-1-1", 1);
        fails("701:0-1-1", 1);
        fails("5:0-0-1", 4);
        fails("5:0-00-1", 5);
        fails("5:0-1-0", 6);
        fails("5=0-1-1-2-2-3-1", 14);
        fails("5:0-1-1-1-2-1-3-1-4-1-5-1-6-1-7-1-8", 31);
        fails(ONE + ";6:1-1-1", 14);
        fails(ONE + ";61:1-1-2", 9);
        // A number that is 0 with nothing, or nothing that can follow it: the promise names its last digit.
        fails("0", 0);
        fails("0x", 0);
        fails("5:0-0", 4);
        fails("5:0-00", 5);
    }

    private static void netsWithoutRoom() {
        String twelve = times(12, ONE);
        String eleven = times(11, ONE);
        fails(twelve + ";" + ONE, 96);
        fails(twelve + ";", 96);
        fails(twelve + ";5x", 96);
        fails(twelve + ";61:0-1-1", 96);
        fails(twelve + "x", 95);
        fails(eleven + ";5=0-1-1", 88);
        fails(eleven + ";25=0-1-1", 88);
        fails(eleven + ";5=x", 88);
        fails(eleven + ";5=", 88);
        fails(eleven + ";5x", 89);
        fails(times(6, "5=0-1-1") + ";" + ONE, 48);
        fails(times(6, "5=0-1-1") + ";" + "5=0-1-1", 48);
        DUE.is("4 eleven and one", Due.net(new LineChoice(), eleven + ";" + ONE), 12);
        DUE.is("4 ten and two", Due.net(new LineChoice(), times(10, ONE) + ";5=0-1-1"), 12);
    }

    /** A LINE with all that can be set, SETTLED, beside a STOP that is CLOSED. */
    private static LineChoice used() {
        LineChoice x = Due.with("10:0-5-1;10:0-6-1", 1, 100);
        x.waiting(40);
        x.crowd(900);
        x.settles(2);
        x.seats(0, 7);
        x.offset(0, 8);
        x.out(0, true);
        x.closes(5, true);
        x.closes(0, true);
        return x;
    }

    private static void netStartsAnew() {
        LineChoice x = used();
        DUE.is("4 K before", x.count(5), 2);
        DUE.is("4 anew", Due.net(x, "10:0-5-1"), 1);
        int[] want = {1, 40, 1, 100, 900, 0, 1, 0, 0};
        for (int what = 0; what < want.length; what++) {
            DUE.is("4 anew, count " + what, x.count(what), want[what]);
        }
        DUE.is("4 anew, seats", x.line(0, 2), 50);
        DUE.is("4 anew, offset", x.line(0, 3), 0);
        DUE.is("4 anew, out", x.line(0, 4), 0);
        DUE.is("4 anew, step", x, x.stop(0, 0), "0 [5, 0]");
        DUE.is("4 anew, averaged", x, x.averaged(0, 0), "0 [0]");
        // The same once more, now that the first rows are written over again.
        x.settles(1);
        DUE.is("4 again", Due.net(x, "10:0-5-1"), 1);
        DUE.is("4 again, averaged", x, x.averaged(0, 0), "0 [0]");
        DUE.is("4 again, seats", x.line(0, 2), 50);
        DUE.is("4 again, offset", x.line(0, 3), 0);
        DUE.is("4 again, out", x.line(0, 4), 0);
    }

    private static void addsBehind() {
        LineChoice x = used();
        String before = Due.state(x);
        DUE.is("5 one", Due.adds(x, "7:3-2-4"), 3);
        DUE.is("5 text is gone", x.count(10), 0);
        DUE.is("5 two", Due.adds(x, "8=5-2-6-3-7"), 5);
        DUE.is("5 there", x, x.stop(3, 1), "6 [3, 0]");
        DUE.is("5 back", x, x.stop(4, 0), "7 [3, 0]");
        DUE.is("5 the one added before", x, x.stop(2, 0), "3 [2, 0]");
        DUE.is("5 K stays", x.count(5), 2);
        DUE.is("5 out stays", x.count(8), 1);
        DUE.is("5 closed stays", x.count(7), 33);
        DUE.is("5 seats", x.line(2, 2), 50);
        DUE.is("5 offset", x.line(2, 3), 0);
        x.drops(4);
        x.drops(3);
        x.drops(2);
        DUE.is("5 all else stays", Due.state(x), before);
        // A LINE that takes the room of one that went has nothing of it.
        x.drops(0);
        DUE.is("5 in an old one's room", Due.adds(x, "10:0-5-1"), 2);
        DUE.is("5 new seats", x.line(1, 2), 50);
        DUE.is("5 new offset", x.line(1, 3), 0);
        DUE.is("5 new out", x.line(1, 4), 0);
        DUE.is("5 new averaged", x, x.averaged(1, 0), "0 [0]");
        DUE.is("5 once more", Due.adds(x, "10:2-5-3"), 3);
        DUE.is("5 the old one", x, x.stop(0, 0), "0 [6, 90]");
        DUE.is("5 the one before", x, x.stop(1, 0), "0 [5, 0]");
        DUE.is("5 the new one", x, x.stop(2, 0), "2 [5, 0]");
    }

    private static void addsFail(int lines, String text, int p) {
        LineChoice x = new LineChoice();
        Due.net(x, lines == 0 ? "" : times(lines, ONE));
        String before = Due.state(x);
        DUE.is("5 adds '" + text + "' to " + lines, Due.adds(x, text), -21 - p);
        DUE.is("5 text is gone", x.count(10), 0);
        DUE.is("5 all stays", Due.state(x), before);
    }

    private static void addsThatFail() {
        addsFail(0, "", 0);
        addsFail(0, ONE + ";", 7);
        addsFail(0, ONE + ";" + ONE, 7);
        addsFail(0, "5:0-1-0", 6);
        addsFail(0, "61:0-1-1", 1);
        addsFail(12, ONE, 0);
        addsFail(12, "", 0);
        addsFail(12, "5x", 0);
        addsFail(11, "15=0-1-1", 0);
        addsFail(11, "15x", 2);
        LineChoice x = Due.with(times(11, ONE));
        DUE.is("5 the twelfth", Due.adds(x, ONE), 12);
        LineChoice y = Due.with(times(10, ONE));
        DUE.is("5 the last two", Due.adds(y, "5=0-1-1"), 12);
    }

    private static void drops() {
        LineChoice x = Due.with("1:0-1-1;2:0-2-1;3:0-3-1", 1, 10);
        x.crowd(100);
        x.settles(3);
        x.seats(2, 33);
        x.offset(1, 22);
        x.out(2, true);
        String averaged = x.averaged(2, 0) + Due.row(x);
        DUE.is("6 no such", x.drops(3), -1);
        DUE.is("6 below 0", x.drops(-1), -1);
        DUE.is("6 first", x.drops(0), 2);
        DUE.is("6 a number less", x.line(0, 0), 2);
        DUE.is("6 offset goes along", x.line(0, 3), 22);
        DUE.is("6 seats go along", x.line(1, 2), 33);
        DUE.is("6 out goes along", x.count(8), 2);
        DUE.is("6 averaged goes along", x.averaged(1, 0) + Due.row(x), averaged);
        DUE.is("6 K stays", x.count(5), 3);
        DUE.is("6 last", x.drops(1), 1);
        DUE.is("6 only", x.drops(0), 0);
        DUE.is("6 none", x.drops(0), -1);
        DUE.is("6 riders stay", x.count(3), 10);
    }

    private static void waitingGoalRiders() {
        LineChoice x = new LineChoice();
        DUE.is("7 was 50", x.waiting(1), 50);
        DUE.is("7 was 1", x.waiting(100), 1);
        DUE.is("7 0", x.waiting(0), -1);
        DUE.is("7 101", x.waiting(101), -1);
        DUE.is("7 stays", x.count(1), 100);
        DUE.is("8 was 0", x.goal(9), 0);
        DUE.is("8 was 9", x.goal(3), 9);
        DUE.is("8 10", x.goal(10), -1);
        DUE.is("8 -1", x.goal(-1), -1);
        DUE.is("8 stays", x.count(2), 3);
        DUE.is("9 was 0", x.riders(4, 9999), 0);
        DUE.is("9 was 9999", x.riders(4, 5), 9999);
        DUE.is("9 of another", x.riders(3, 6), 0);
        DUE.is("9 10000", x.riders(4, 10000), -1);
        DUE.is("9 -1", x.riders(4, -1), -1);
        DUE.is("9 no stop", x.riders(10, 1), -1);
        DUE.is("9 no stop below", x.riders(-1, 1), -1);
        DUE.is("9 stays", x.count(3), 11);
    }

    private static void outAndClosed() {
        LineChoice x = Due.with("1:0-1-1;2:0-2-1;3:0-3-1");
        DUE.is("10 is not out", x.out(1, false), -2);
        DUE.is("10 one", x.out(1, true), 1);
        DUE.is("10 is out", x.out(1, true), -2);
        DUE.is("10 two", x.out(0, true), 2);
        DUE.is("10 back", x.out(1, false), 1);
        DUE.is("10 no such", x.out(3, true), -1);
        DUE.is("10 no such, not out", x.out(-1, false), -1);
        DUE.is("10 bits", x.count(8), 1);
        DUE.is("11 is not closed", x.closes(9, false), -2);
        DUE.is("11 one", x.closes(9, true), 1);
        DUE.is("11 is closed", x.closes(9, true), -2);
        DUE.is("11 two", x.closes(0, true), 2);
        DUE.is("11 back", x.closes(0, false), 1);
        DUE.is("11 no such", x.closes(10, true), -1);
        DUE.is("11 no such, below 0", x.closes(-1, false), -1);
        DUE.is("11 bits", x.count(7), 512);
    }

    private static void oftenLineStop() {
        LineChoice x = Due.with("7:0-1-1-2-2;8:3-4-4");
        DUE.is("12 was 7", x.often(0, 60), 7);
        DUE.is("12 was 60", x.often(0, 1), 60);
        DUE.is("12 0", x.often(0, 0), -1);
        DUE.is("12 61", x.often(0, 61), -1);
        DUE.is("12 no line", x.often(2, 5), -1);
        DUE.is("12 no line below", x.often(-1, 5), -1);
        x.seats(1, 44);
        x.offset(1, 55);
        x.out(1, true);
        int[] want = {8, 2, 44, 55, 1};
        for (int what = 0; what < want.length; what++) {
            DUE.is("13 line 1, " + what, x.line(1, what), want[what]);
        }
        DUE.is("13 line 0", x.line(0, 0), 1);
        DUE.is("13 stops of line 0", x.line(0, 1), 3);
        DUE.is("13 not out", x.line(0, 4), 0);
        DUE.is("13 what 5", x.line(0, 5), -1);
        DUE.is("13 what -1", x.line(0, -1), -1);
        DUE.is("13 no line", x.line(2, 0), -1);
        DUE.is("13 no line below", x.line(-1, 0), -1);
        DUE.is("14 first", x, x.stop(0, 0), "0 [1, 0]");
        DUE.is("14 second", x, x.stop(0, 1), "1 [2, 0]");
        DUE.is("14 none such", x, x.stop(0, 3), "-1 [2, 0]");
        DUE.is("14 below 0", x, x.stop(0, -1), "-1 [2, 0]");
        DUE.is("14 no line", x, x.stop(2, 0), "-1 [2, 0]");
        DUE.is("14 last", x, x.stop(0, 2), "2 []");
        LineChoice y = Due.with("10:0-5-1", 1, 100);
        y.crowd(500);
        y.settles(1);
        DUE.is("14 extra", y, y.stop(0, 0), "0 [5, 100]");
    }
}
