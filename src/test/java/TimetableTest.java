/** Promises 49 to 54: by timetable, count, row. */
public final class TimetableTest {
    private static final Due DUE = new Due("TimetableTest");

    public static void main(String[] args) {
        offset();
        comes();
        journey();
        likeOnes();
        chain();
        usual();
        count();
        row();
        DUE.close();
    }

    private static void offset() {
        LineChoice x = Due.with("10:0-5-1;10:0-5-1");
        DUE.is("49 was 0", x.offset(1, 59), 0);
        DUE.is("49 was 59", x.offset(1, 7), 59);
        DUE.is("49 to 0", x.offset(0, 0), 0);
        DUE.is("49 60", x.offset(1, 60), -1);
        DUE.is("49 -1", x.offset(1, -1), -1);
        DUE.is("49 no line", x.offset(2, 5), -1);
        DUE.is("49 no line below", x.offset(-1, 5), -1);
        DUE.is("49 stays", x.line(1, 3), 7);
        DUE.is("49 of the other", x.line(0, 3), 0);
    }

    private static void comes() {
        LineChoice x = Due.with("7:0-5-1-3-2", 2);
        // 6000 by 7: 0, 857, 1714, .. 5142, and 6000 as a whole (7 times 857 would be 5999)
        DUE.is("50 at 0", x.comes(0, 0, 0), 0);
        DUE.is("50 from 1", x.comes(0, 0, 1), 857);
        DUE.is("50 just then", x.comes(0, 0, 857), 857);
        DUE.is("50 just behind", x.comes(0, 0, 858), 1714);
        DUE.is("50 as a whole", x.comes(0, 0, 5143), 6000);
        DUE.is("50 second stop", x.comes(0, 1, 0), 500);
        DUE.is("50 last stop", x.comes(0, 2, 801), 1657);
        DUE.is("50 most", x.comes(0, 0, 100000), 100285);
        DUE.is("50 too much", x.comes(0, 0, 100001), -1);
        DUE.is("50 below 0", x.comes(0, 0, -1), -1);
        DUE.is("50 no stop", x.comes(0, 3, 0), -1);
        DUE.is("50 no stop below", x.comes(0, -1, 0), -1);
        DUE.is("50 no line", x.comes(1, 0, 0), -1);
        DUE.is("50 no line below", x.comes(-1, 0, 0), -1);
        x.offset(0, 59);
        DUE.is("50 offset", x.comes(0, 0, 0), 5900);
        DUE.is("50 offset and a stop", x.comes(0, 1, 6401), 7257);
        x.out(0, true);
        DUE.is("50 it comes though nobody boards it", x.comes(0, 0, 0), 5900);
        LineChoice y = Due.with("59:0-5-1", 1);
        DUE.is("50 cut", y.comes(0, 0, 102), 203);
        LineChoice z = Due.with("10:0-5-1-5-2", 2, 100);
        z.crowd(500);
        z.settles(1);
        DUE.is("50 with extra", z.comes(0, 1, 0), 600);
        DUE.is("50 with extras", z.comes(0, 2, 601), 1200);
        z.rounds();
        z.comes(0, 0, 0);
        DUE.is("50 tells no row", Due.row(z), "[3]");
    }

    private static void journey() {
        LineChoice x = Due.with("10:0-5-1;20:1-5-2", 2);
        DUE.is("51 at 0", x, x.journey(0, 0), "1100 [0, 1, 1, 2]");
        DUE.is("51 at 1", x, x.journey(0, 1), "1699 [0, 1, 1, 2]");
        DUE.is("51 from 1", x, x.journey(1, 300), "500 [1, 2]");
        DUE.is("51 no cost", x, x.journey(3, 0), "-2 [1, 2]");
        DUE.is("51 goal", x, x.journey(2, 77), "0 []");
        DUE.is("51 most", x, x.journey(1, 100000), "700 [1, 2]");
        DUE.is("51 too much", x, x.journey(1, 100001), "-1 [1, 2]");
        DUE.is("51 below 0", x, x.journey(1, -1), "-1 [1, 2]");
        DUE.is("51 no stop", x.journey(10, 0), -1);
        DUE.is("51 no stop below", x.journey(-1, 0), -1);
        DUE.is("51 NONE ahead of -2", x.journey(3, -1), -1);
        x.offset(1, 2);
        // line 1 at 200, 500, ..: just when line 0 comes to 1
        DUE.is("51 offset", x, x.journey(0, 0), "1000 [0, 1, 1, 2]");
    }

    private static void likeOnes() {
        LineChoice x = Due.with("10:0-9-1;10:0-5-1", 1);
        x.waiting(100);
        DUE.is("17", x, x.chosen(0), "3 [1, 0]");
        DUE.is("51 like ones: the first of the set", x, x.journey(0, 0), "500 [1, 1]");
        x.offset(1, 1);
        DUE.is("51 the one that comes first", x, x.journey(0, 0), "900 [0, 1]");
        DUE.is("51 the other", x, x.journey(0, 1), "599 [1, 1]");
        x.waiting(50);
        DUE.is("51 only those of the set", x, x.journey(0, 0), "600 [1, 1]");
    }

    private static void chain() {
        LineChoice x = Due.with(CostsTest.CHAIN, 9);
        DUE.is("51 nine rides, eight of them told", x, x.journey(0, 0),
                "4900 [0, 1, 1, 2, 2, 3, 3, 4, 4, 5, 5, 6, 6, 7, 7, 8]");
        DUE.is("51 eight rides", x, x.journey(1, 0), "4300 [1, 2, 2, 3, 3, 4, 4, 5, 5, 6, 6, 7, 7, 8, 8, 9]");
        DUE.is("54 the last one", x.row(15), 9L);
        DUE.is("54 behind it", Due.hasNumber(x, 16), false);
    }

    private static void usual() {
        LineChoice x = Due.with("10:0-5-1", 1);
        DUE.is("52 one", x, x.usual(0, 1), "500 [500, 500]");
        DUE.is("52 two", x, x.usual(0, 2), "750 [500, 1000]");
        // 500, 1000, 900: 2400 / 3
        DUE.is("52 three", x, x.usual(0, 3), "800 [500, 1000]");
        DUE.is("52 sixty", x, x.usual(0, 60), "750 [500, 1000]");
        DUE.is("52 61", x, x.usual(0, 61), "-1 [500, 1000]");
        DUE.is("52 0", x, x.usual(0, 0), "-1 [500, 1000]");
        DUE.is("52 no cost", x, x.usual(2, 1), "-2 [500, 1000]");
        DUE.is("52 no stop", x, x.usual(10, 1), "-1 [500, 1000]");
        DUE.is("52 no stop below", x, x.usual(-1, 1), "-1 [500, 1000]");
        DUE.is("52 NONE ahead of -2", x.usual(2, 0), -1);
        DUE.is("52 goal", x, x.usual(1, 7), "0 [0, 0]");
        LineChoice y = Due.with("7:0-5-1", 1);
        // 500, 1257, 1157: 2914 / 3 = 971.3
        DUE.is("52 cut", y, y.usual(0, 3), "971 [500, 1257]");
    }

    private static void count() {
        LineChoice x = Due.with("10:0-5-1-4-2;10=3-5-1;5:0-99-2", 2, 10, 20, 30);
        x.waiting(33);
        x.crowd(44);
        x.settles(5);
        x.closes(9, true);
        x.closes(4, true);
        x.out(2, true);
        x.sign(0);
        x.worst();
        int[] want = {4, 33, 2, 60, 44, 5, 5, 528, 4, 1, 4, 12, 15};
        for (int what = 0; what < want.length; what++) {
            DUE.is("53 what " + what, x.count(what), want[what]);
        }
        DUE.is("53 what 13", x.count(13), -1);
        DUE.is("53 what -1", x.count(-1), -1);
        DUE.is("53 asking keeps the row", x.count(9), 1);
    }

    private static void row() {
        LineChoice x = Due.with("10:0-5-1", 1, 10);
        DUE.is("54 at first", Due.hasNumber(x, 0), false);
        x.total();
        DUE.is("54 number 0", x.row(0), 0L);
        DUE.is("54 number 1", x.row(1), 5000L);
        for (int bad : new int[] {-1, 2, Integer.MIN_VALUE, Integer.MAX_VALUE}) {
            DUE.is("54 none such: " + bad, Due.hasNumber(x, bad), false);
        }
        DUE.is("54 still there", x.row(1), 5000L);
        x.rounds();
        DUE.is("54 a shorter one", Due.row(x), "[2]");
        DUE.is("54 the old one is gone", Due.hasNumber(x, 1), false);
        x.chosen(1);
        DUE.is("54 an empty one", Due.hasNumber(x, 0), false);
    }
}
