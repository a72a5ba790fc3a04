/** The boundaries that promises 1 to 14 name: a new object, THE TEXT, LINES and STOPS. */
public final class LinesEdgesTest {
    private static final Edges E = new Edges("LinesEdgesTest");
    private static final String ONE = "5:0-1-1";
    private static final String BOTH = "5=0-1-1";
    /** 39 signs, the most that a LINE can have. */
    private static final String LONG = "10:0-11-1-12-2-13-3-14-4-15-5-16-6-17-7";

    public static void main(String[] args) throws IllegalAccessException {
        E.runAll(LinesEdgesTest.class);
    }

    private static String times(int n, String line) {
        return String.join(";", java.util.Collections.nCopies(n, line));
    }

    private static LineChoice lines(int n) {
        return Due.tell(Due.with(n == 0 ? "" : times(n, ONE)), Edges.TEXT);
    }

    private static void reads(String text, int lines) {
        E.is("'" + text + "'", Due.net(new LineChoice(), text), lines);
    }

    private static void fails(String text, int p) {
        E.refusesText(text, p, Edges::busy, LineChoice::net);
    }

    // ---- 1

    static void promise01NoLines() {
        LineChoice x = new LineChoice();
        E.is("lines", x.count(0), 0);
        E.is("line 0", x.line(0, 0), -1);
        E.is("steps", x.count(6), 0);
        E.is("lines in no set", x.count(11), 0);
    }

    static void promise01FirstNumbers() {
        LineChoice x = new LineChoice();
        E.is("waiting", x.count(1), 50);
        E.is("goal", x.count(2), 0);
        E.is("riders", x.count(3), 0);
        E.is("crowd", x.count(4), 0);
        E.is("K", x.count(5), 0);
        E.is("closed", x.count(7), 0);
        E.is("out", x.count(8), 0);
        E.is("row", x.count(9), 0);
        E.is("text", x.count(10), 0);
        E.is("only the goal has a cost", x.count(12), 1);
        for (int i = 0; i < 10; i++) {
            E.is("riders of " + i, x.riders(i, 1), 0);
        }
    }

    static void promise01OtherObjectsAreNotTouched() {
        LineChoice x = new LineChoice();
        Edges.busy();
        E.is("as new", Edges.all(x), Edges.all(new LineChoice()));
    }

    // ---- 2

    private static LineChoice signs(int n) {
        return Due.tell(new LineChoice(), fullText().substring(0, n));
    }

    static void promise02FourHundredFit() {
        E.is("0 and 4", signs(0).sign(0), 4);
        E.is("1 and 4", signs(1).sign(0), 5);
        E.is("395 and 4", signs(395).sign(0), 399);
        E.is("396 and 4", signs(396).sign(0), 400);
    }

    static void promise02MoreThanFourHundredAreRefused() {
        for (int n = 397; n <= 400; n++) {
            int signs = n;
            E.refuses(n + " and 4", -1, () -> signs(signs), x -> x.sign(0x353A302D));
        }
    }

    static void promise02HighestByteFirst() {
        int[] texts = {0xFFFFFFFF, 0x35FFFFFF, 0x353AFFFF, 0x353A30FF, 0x353A302D};
        for (int p = 0; p < texts.length; p++) {
            LineChoice x = new LineChoice();
            E.is("four signs", x.sign(texts[p]), 4);
            E.is("fault of " + Integer.toHexString(texts[p]), x.net(), -21 - p);
        }
    }

    static void promise02AnyIntHasFourSigns() {
        LineChoice x = new LineChoice();
        E.is("least", x.sign(Edges.LEAST), 4);
        E.is("most", x.sign(Edges.MOST), 8);
        E.is("0", x.sign(0), 12);
        E.is("a sign 128 is no sign of a text", x.net(), -21);
    }

    static void promise02BehindWhatIsThere() {
        LineChoice x = new LineChoice();
        x.sign(0x353A302D);
        x.end(3);
        E.is("behind three", x.sign(0x2D312D31), 7);
        E.is("'5:0-1-1'", x.net(), 1);
        E.is("read, so empty", x.sign(0), 4);
    }

    // ---- 3

    static void promise03AsManyAsThereAre() {
        for (int n : new int[] {0, 1, 3, 4}) {
            LineChoice x = new LineChoice();
            x.sign(0x353A302D);
            E.is(n + " of 4", x.end(n), true);
            E.is(n + " are left", x.count(10), n);
        }
        LineChoice full = signs(400);
        E.is("400 of 400", full.end(400), true);
        E.is("399 of 400", full.end(399), true);
        E.is("400 of 399", full.end(400), false);
    }

    static void promise03NotSoMany() {
        for (int n : new int[] {8, 9, 400, Edges.MOST}) {
            E.refuses(n + " of 7", 0, x -> x.end(n) ? 1 : 0);
        }
        E.refuses("401 of 400", 0, () -> signs(400), x -> x.end(401) ? 1 : 0);
    }

    static void promise03BelowZero() {
        for (int n : new int[] {-1, -2, -7, Edges.LEAST}) {
            E.refuses(n + " of 7", 0, x -> x.end(n) ? 1 : 0);
        }
    }

    static void promise03OfAnEmptyText() {
        LineChoice x = new LineChoice();
        E.is("0 of 0", x.end(0), true);
        E.is("1 of 0", x.end(1), false);
        E.is("-1 of 0", x.end(-1), false);
    }

    static void promise03TheFirstOnesStay() {
        LineChoice x = Due.tell(new LineChoice(), ONE + ";x");
        E.is("7 of 9", x.end(7), true);
        E.is("what is gone stays gone", x.end(8), false);
        E.is("'5:0-1-1'", x.net(), 1);
    }

    // ---- 4

    static void promise04EmptyText() {
        LineChoice x = Edges.busy();
        x.end(0);
        E.is("no lines", x.net(), 0);
        E.is("none", x.count(0), 0);
        E.is("none, still", x.net(), 0);
    }

    static void promise04InPlaceOfAll() {
        LineChoice x = Edges.twelve();
        E.is("one", Due.net(x, "6:8-1-9"), 1);
        E.is("it", x.stop(0, 0), 8);
        E.is("no other", x.line(1, 0), -1);
    }

    static void promise04Frequency() {
        for (int f : new int[] {1, 2, 9, 10, 59, 60}) {
            E.is("frequency " + f, Due.with(f + ":0-1-1").line(0, 0), f);
        }
        E.is("frequency 01", Due.with("01:0-1-1").line(0, 0), 1);
        fails("0:0-1-1", 0);
        fails("00:0-1-1", 1);
        fails("61:0-1-1", 1);
        fails("62:0-1-1", 1);
        fails("99:0-1-1", 1);
    }

    static void promise04FrequencyHasOneOrTwoDigits() {
        fails(":0-1-1", 0);
        fails("001:0-1-1", 1);
        fails("010:0-1-1", 2);
        fails("100:0-1-1", 2);
        fails("600:0-1-1", 2);
        fails("610:0-1-1", 1);
    }

    static void promise04Minutes() {
        for (int m : new int[] {1, 2, 9, 10, 98, 99}) {
            LineChoice x = Due.with("5:0-" + m + "-1");
            E.tells("minutes " + m, x, x.stop(0, 0), "0 [" + m + ", 0]");
        }
        LineChoice x = Due.with("5:0-01-1");
        E.tells("minutes 01", x, x.stop(0, 0), "0 [1, 0]");
        fails("5:0-0-1", 4);
        fails("5:0-00-1", 5);
        fails("5:0-100-1", 6);
        fails("5:0-990-1", 6);
        fails("5:0-001-1", 5);
        fails("5:0--1", 4);
        fails("5:0-1-1-0-2", 8);
    }

    /** "5:0" with so many STEPS behind it, to 1, 2, .. */
    private static String way(int steps) {
        StringBuilder s = new StringBuilder("5:0");
        for (int i = 1; i <= steps; i++) {
            s.append("-1-").append(i);
        }
        return s.toString();
    }

    static void promise04OnceToSevenTimes() {
        fails(way(0), 3);
        for (int steps : new int[] {1, 2, 6, 7}) {
            E.is(steps + " steps", Due.with(way(steps)).line(0, 1), steps + 1);
            E.is(steps + " steps, counted", Due.with(way(steps)).count(6), steps);
        }
        fails(way(8), 31);
        fails(way(7) + "-", 31);
        fails(way(9), 31);
    }

    static void promise04StopIsOneDigit() {
        E.is("0", Due.with("5:0-1-9").stop(0, 0), 0);
        E.is("9", Due.with("5:0-1-9").stop(0, 1), 9);
        fails("5:/-1-1", 2);
        fails("5::-1-1", 2);
        fails("5:-1-1", 2);
        fails("5:00-1-1", 3);
        fails("5:0-1-/", 6);
        fails("5:0-1-:", 6);
        fails("5:0-1-", 6);
        fails("5:0-1-10", 7);
    }

    static void promise04DigitsAndTheirNeighbours() {
        fails("/:0-1-1", 0);
        fails("5/:0-1-1", 1);
        fails("5:0-/-1", 4);
        fails("5:0-:-1", 4);
        fails("5:0-1/-1", 5);
        fails("5:0-1:-1", 5);
    }

    static void promise04ColonOrEqualSign() {
        reads(ONE, 1);
        reads(BOTH, 2);
        fails("5;0-1-1", 1);
        fails("5<0-1-1", 1);
        fails("5>0-1-1", 1);
        fails("5-0-1-1", 1);
        fails("5::0-1-1", 2);
        fails("5:=0-1-1", 2);
        fails("5==0-1-1", 2);
    }

    static void promise04SignsBetween() {
        fails("5:0,1-1", 3);
        fails("5:0.1-1", 3);
        fails("5:0-1,1", 5);
        fails("5:0-1.1", 5);
        fails(ONE + ",2-3", 7);
        fails(ONE + ":" + ONE, 7);
        fails(ONE + "<" + ONE, 7);
    }

    static void promise04StopToldAgain() {
        fails("5:0-1-0", 6);
        fails("5:0-1-1-1-0", 10);
        fails("5:0-1-1-1-1", 10);
        fails("5:0-1-1-1-2-1-3-1-4-1-5-1-6-1-0", 30);
        fails("5:0-1-1-1-2-1-3-1-4-1-5-1-6-1-6", 30);
        fails("5=9-1-9", 6);
        fails(ONE + ";5:2-1-2", 14);
        reads(ONE + ";5:0-1-1", 2);
        reads(ONE + ";5:1-1-0", 2);
    }

    static void promise04NoBlanks() {
        String text = "12=3-45-6;7:8-9-0";
        for (int p = 0; p <= text.length(); p++) {
            fails(text.substring(0, p) + " " + text.substring(p), p);
        }
    }

    static void promise04OnlySignsOfTexts() {
        for (int sign : new int[] {0, 1, 9, 10, 13, 127, 128, 181, 255}) {
            fails((char) sign + ONE, 0);
            fails("5:0-1-" + (char) sign, 6);
            fails(ONE + (char) sign, 7);
        }
    }

    static void promise04SemicolonBetween() {
        reads(ONE + ";" + ONE, 2);
        fails(";", 0);
        fails(";" + ONE, 0);
        fails(ONE + ";", 8);
        fails(ONE + ";;" + ONE, 8);
    }

    static void promise04EndsTooEarly() {
        String text = "12=3-45-6-7-8;9:1-2-3";
        for (int n = 1; n < text.length(); n++) {
            boolean whole = n == 9 || n == 13;
            if (whole) {
                reads(text.substring(0, n), 2);
            } else {
                fails(text.substring(0, n), n);
            }
        }
        reads(text, 3);
    }

    static void promise04ZeroAtTheEnd() {
        fails("0", 0);
        fails("00", 1);
        fails("5:0-0", 4);
        fails("5:0-00", 5);
        fails("61", 1);
        fails("0x", 0);
    }

    static void promise04TwoLinesWithEqualSign() {
        LineChoice x = Due.with("8=0-1-1-2-2-3-3-4-4-5-5-6-6-7-7");
        E.is("lines", x.count(0), 2);
        for (int p = 0; p < 8; p++) {
            E.tells("there " + p, x, x.stop(0, p), p + (p < 7 ? " [" + (p + 1) + ", 0]" : " []"));
            E.tells("back " + p, x, x.stop(1, p), 7 - p + (p < 7 ? " [" + (7 - p) + ", 0]" : " []"));
        }
        E.is("frequency back", x.line(1, 0), 8);
        LineChoice y = Due.with("8=0-1-1;9:2-1-3");
        E.is("behind it", y.stop(1, 0), 1);
        E.is("then the next", y.stop(2, 0), 2);
    }

    static void promise04RoomForTwelve() {
        reads(times(11, ONE), 11);
        reads(times(12, ONE), 12);
        fails(times(13, ONE), 96);
        fails(times(14, ONE), 96);
        fails(times(12, ONE) + ";61:0-1-1", 96);
        fails(times(12, ONE) + ";x", 96);
        fails(times(12, ONE) + ";", 96);
        fails(times(12, ONE) + "x", 95);
    }

    static void promise04RoomForBothWays() {
        reads(times(9, ONE) + ";" + BOTH, 11);
        reads(times(10, ONE) + ";" + BOTH, 12);
        fails(times(11, ONE) + ";" + BOTH, 88);
        fails(times(11, ONE) + ";15=0-1-1", 88);
        fails(times(12, ONE) + ";" + BOTH, 96);
        reads(times(5, BOTH) + ";" + ONE, 11);
        reads(times(6, BOTH), 12);
        fails(times(6, BOTH) + ";" + ONE, 48);
        fails(times(7, BOTH), 48);
        reads(BOTH + ";" + times(10, ONE), 12);
        fails(BOTH + ";" + times(11, ONE), 88);
    }

    static void promise04RoomIsNotThatOfTheLinesThereWere() {
        LineChoice x = Edges.twelve();
        E.is("twelve for twelve", Due.net(x, times(12, ONE)), 12);
        E.is("both ways for twelve", Due.net(x, times(6, BOTH)), 12);
    }

    /** 400 signs of eleven LINES. */
    private static String fullText() {
        return times(9, LONG) + ";10:0-1-1-1-2-1-3-1-4-10-5-10-6;10:0-10-1";
    }

    static void promise04FullText() {
        E.is("signs", fullText().length(), 400);
        reads(fullText(), 11);
        LineChoice x = Due.with(fullText());
        E.is("the last sign counts", x.stop(10, 1), 1);
        fails(fullText().substring(0, 399) + "x", 399);
        fails(fullText().substring(0, 399) + "0", 399);
        fails(fullText().substring(0, 399), 399);
        fails(fullText().substring(0, 391) + "10:0-1-1-", 400);
        fails(fullText().substring(0, 390) + "-", 391);
    }

    static void promise04WhatStaysAndWhatDoesNot() {
        LineChoice x = Edges.busy();
        E.is("read", x.net(), 2);
        int[] want = {2, 40, 2, 229, 100, 0, 2, 0, 0};
        for (int what = 0; what < want.length; what++) {
            E.is("count " + what, x.count(what), want[what]);
        }
        for (int line = 0; line < 2; line++) {
            E.is("seats", x.line(line, 2), 50);
            E.is("offset", x.line(line, 3), 0);
            E.is("out", x.line(line, 4), 0);
            E.tells("averaged, extra", x, x.averaged(line, 0), "0 [0]");
        }
    }

    static void promise04NothingIsOutOrClosed() {
        LineChoice x = Edges.twelve();
        for (int i = 0; i < 10; i++) {
            x.closes(i, true);
            x.out(i, true);
        }
        E.is("read", Due.net(x, times(12, ONE)), 12);
        E.is("closed", x.count(7), 0);
        E.is("out", x.count(8), 0);
    }

    /** All that can be set of LINES is set, then they are told anew: three times, as rows may be used again. */
    static void promise04EachTimeAnew() {
        LineChoice x = Due.with("10=0-5-1-6-2", 2, 100);
        x.crowd(500);
        for (int i = 0; i < 3; i++) {
            setAll(x);
            E.is("read", Due.net(x, "10=0-5-1-6-2"), 2);
            E.is("as new", Due.state(x), "2 50 2 100 500 0 4 0 0 r100 r0 r0 r0 r0 r0 r0 r0 r0 r0"
                    + " line 10 3 50 0 0 0[5, 0]0 1[6, 0]0 2[]-1 line 10 3 50 0 0 2[6, 0]0 1[5, 0]0 0[]-1");
        }
    }

    /** SEATS, OFFSET, OUT, EXTRAS of every LINE. */
    private static void setAll(LineChoice x) {
        x.goal(0);
        x.riders(2, 100);
        x.settles(1);
        x.goal(2);
        x.riders(2, 0);
        x.settles(1);
        for (int line = 0; line < x.count(0); line++) {
            x.seats(line, 7);
            x.offset(line, 8);
            x.out(line, true);
        }
    }

    static void promise04AShorterLineHasNothingOfALongerOne() {
        LineChoice x = Due.with("10:0-5-1-6-2", 2, 100);
        x.crowd(500);
        E.is("gap of two steps", x.settles(1), 200);
        x.goal(1);
        for (int i = 0; i < 4; i++) {
            Due.net(x, "10:0-5-1");
            E.is("gap of one step", x.settles(1), 100);
            E.is("no further one", x.averaged(0, 1), -1);
            E.is("comes", x.comes(0, 1, 0), 600);
        }
    }

    static void promise05AShorterLineHasNothingOfALongerOne() {
        LineChoice x = Due.with("10:0-5-1-6-2", 2, 100);
        x.settles(1);
        x.drops(0);
        x.goal(1);
        for (int i = 0; i < 4; i++) {
            x.clears();
            Due.adds(x, "10:0-5-1");
            E.is("gap of one step", x.settles(1), 100);
            x.drops(0);
        }
    }

    static void promise04TheRowStays() {
        LineChoice x = Edges.busy();
        x.net();
        E.is("row", Due.row(x), Due.row(Edges.busy()));
    }

    static void promise04ReadTextIsEmpty() {
        LineChoice x = Edges.busy();
        x.net();
        E.is("read", x.count(10), 0);
        Due.net(x, "x");
        E.is("refused", x.count(10), 0);
        E.is("the empty one is read next", x.net(), 0);
    }

    // ---- 5

    private static void addsFail(int lines, String text, int p) {
        E.refusesText(text, p, () -> lines(lines), LineChoice::adds);
    }

    static void promise05OneLine() {
        E.is("to none", Due.adds(lines(0), ONE), 1);
        E.is("to one", Due.adds(lines(1), ONE), 2);
        E.is("both ways to none", Due.adds(lines(0), BOTH), 2);
        addsFail(1, "", 0);
        addsFail(1, ONE + ";", 7);
        addsFail(1, ONE + ";" + ONE, 7);
        addsFail(1, ";" + ONE, 0);
        addsFail(1, "5:0-1", 5);
        addsFail(1, "5:0-1-0", 6);
        addsFail(1, "0:0-1-1", 0);
        addsFail(1, "61:0-1-1", 1);
        addsFail(1, "5:0-00-1", 5);
        addsFail(1, way(8), 31);
    }

    static void promise05LongestLine() {
        LineChoice x = lines(11);
        E.is("eight stops", Due.adds(x, LONG), 12);
        E.is("they", x.line(11, 1), 8);
    }

    static void promise05RoomForOne() {
        E.is("the eleventh", Due.adds(lines(10), ONE), 11);
        E.is("the twelfth", Due.adds(lines(11), ONE), 12);
        addsFail(12, ONE, 0);
        addsFail(12, "15:0-1-1", 0);
        addsFail(12, "61:0-1-1", 0);
        addsFail(12, "", 0);
    }

    static void promise05RoomForBothWays() {
        E.is("ten and eleven", Due.adds(lines(9), BOTH), 11);
        E.is("eleven and twelve", Due.adds(lines(10), BOTH), 12);
        addsFail(11, BOTH, 0);
        addsFail(11, "15=0-1-1", 0);
        addsFail(12, BOTH, 0);
        LineChoice x = lines(11);
        Due.adds(x, BOTH);
        E.is("one has room still", Due.adds(x, ONE), 12);
    }

    static void promise05RoomAfterDrops() {
        LineChoice x = lines(12);
        x.drops(5);
        E.is("room again", Due.adds(x, "9:8-7-6"), 12);
        E.is("at the end", x.stop(11, 0), 8);
    }

    static void promise05AsNewOnesAndAllElseStays() {
        LineChoice x = Edges.busy();
        String before = Due.state(x);
        E.is("lines", x.adds(), 7);
        for (int line = 5; line < 7; line++) {
            E.is("seats", x.line(line, 2), 50);
            E.is("offset", x.line(line, 3), 0);
            E.is("out", x.line(line, 4), 0);
            E.tells("averaged, extra", x, x.averaged(line, 0), "0 [0]");
        }
        E.is("there", x.stop(5, 0), 3);
        E.is("back", x.stop(6, 0), 4);
        E.is("read", x.count(10), 0);
        x.drops(6);
        x.drops(5);
        E.is("all else", Due.state(x), before);
    }

    static void promise05InTheRoomOfOneThatWent() {
        LineChoice x = Due.with("10=0-5-1-6-2;10=0-5-1-6-2", 2, 100);
        x.crowd(500);
        for (int i = 0; i < 3; i++) {
            setAll(x);
            x.drops(1);
            x.drops(0);
            E.is("lines", Due.adds(x, "9=3-8-4-9-5"), 4);
            for (int line = 2; line < 4; line++) {
                E.is("seats", x.line(line, 2), 50);
                E.is("offset", x.line(line, 3), 0);
                E.is("out", x.line(line, 4), 0);
                E.is("averaged 0", x.averaged(line, 0) + Due.row(x), "0[0]");
                E.is("averaged 1", x.averaged(line, 1) + Due.row(x), "0[0]");
            }
            E.is("stops", x.stop(2, 0) + " " + x.stop(2, 2) + " " + x.stop(3, 0) + " " + x.stop(3, 2), "3 5 5 3");
        }
    }

    static void promise05OneLineEachTime() {
        LineChoice x = new LineChoice();
        for (int i = 0; i < 12; i++) {
            E.is("line " + i, Due.adds(x, (i + 1) + ":0-1-1"), i + 1);
        }
        for (int i = 0; i < 12; i++) {
            E.is("frequency of " + i, x.line(i, 0), i + 1);
        }
    }

    static void promise05TheRowStays() {
        E.tellsNoRow(LineChoice::adds);
    }

    // ---- 6

    static void promise06Line() {
        E.takesLines((x, line) -> x.drops(line));
    }

    static void promise06FirstAndLast() {
        LineChoice x = Due.with("1:0-1-1;2:0-1-1;3:0-1-1;4:0-1-1");
        E.is("the last one", x.drops(3), 3);
        E.is("it is gone", x.line(3, 0), -1);
        E.is("the first one", x.drops(0), 2);
        E.is("a number less", x.line(0, 0), 2);
        E.is("a number less, too", x.line(1, 0), 3);
        E.is("the first of two", x.drops(0), 1);
        E.is("the only one", x.drops(0), 0);
        E.is("none is left", x.drops(0), -1);
    }

    static void promise06OfTwelve() {
        LineChoice x = Edges.twelve();
        for (int left = 11; left >= 0; left--) {
            E.is(left + " left", x.drops(left / 2), left);
        }
    }

    static void promise06AllElseStays() {
        LineChoice x = Edges.busy();
        x.drops(2);
        E.is("out goes along", x.count(8), 4);
        E.is("offset of one ahead", x.line(1, 3), 7);
        int[] want = {4, 40, 2, 229, 100, 2, 5, 64, 4, 2, 7};
        for (int what = 0; what < want.length; what++) {
            E.is("count " + what, x.count(what), want[what]);
        }
        E.is("minutes of one behind", x.stop(3, 0) + Due.row(x), "4[9, 0]");
        E.is("row and text stay", Edges.all(x).endsWith("read 2 3"), true);
    }

    // ---- 7, 8, 9

    static void promise07Waiting() {
        E.is("at first", new LineChoice().waiting(50), 50);
        E.sets(1, 100, (x, w) -> x.waiting(w), x -> x.count(1));
    }

    static void promise08Goal() {
        E.is("at first", new LineChoice().goal(0), 0);
        E.sets(0, 9, (x, stop) -> x.goal(stop), x -> x.count(2));
    }

    static void promise09Riders() {
        int others = Edges.busy().count(3) - 100;
        E.sets(0, 9999, (x, v) -> x.riders(0, v), x -> x.count(3) - others);
    }

    static void promise09Stop() {
        E.takesStops((x, stop) -> x.riders(stop, 5));
        LineChoice x = new LineChoice();
        for (int i = 0; i < 10; i++) {
            E.is("was 0 at " + i, x.riders(i, 9999), 0);
        }
        E.is("the most of all", x.count(3), 99990);
        for (int i = 0; i < 10; i++) {
            E.is("was the most at " + i, x.riders(i, 0), 9999);
        }
    }

    static void promise09BothWrong() {
        E.refuses("no stop, no riders", -1, x -> x.riders(10, 10000));
    }

    // ---- 10, 11

    static void promise10Line() {
        E.takesLines((x, line) -> x.out(line, true));
        E.refuses("none such is not out, either", -1, x -> x.out(5, false));
    }

    static void promise10ItIsSo() {
        E.refuses("it is out", -2, x -> x.out(3, true));
        E.refuses("it is not", -2, x -> x.out(0, false));
    }

    static void promise10HowMany() {
        LineChoice x = Edges.twelve();
        for (int i = 0; i < 12; i++) {
            E.is("out " + i, x.out(i, true), i + 1);
        }
        E.is("bits", x.count(8), 4095);
        for (int i = 0; i < 12; i++) {
            E.is("back " + i, x.out(i, false), 11 - i);
        }
        E.is("no bits", x.count(8), 0);
    }

    static void promise11Stop() {
        E.takesStops((x, stop) -> x.closes(stop, true));
        E.refuses("none such is not closed, either", -1, x -> x.closes(10, false));
    }

    static void promise11ItIsSo() {
        E.refuses("it is closed", -2, x -> x.closes(6, true));
        E.refuses("it is not", -2, x -> x.closes(5, false));
    }

    static void promise11HowMany() {
        LineChoice x = Edges.twelve();
        for (int i = 0; i < 10; i++) {
            E.is("closed " + i, x.closes(i, true), i + 1);
        }
        E.is("bits", x.count(7), 1023);
        for (int i = 0; i < 10; i++) {
            E.is("open " + i, x.closes(i, false), 9 - i);
        }
        E.is("no bits", x.count(7), 0);
    }

    // ---- 12, 13, 14

    static void promise12Often() {
        E.sets(1, 60, (x, f) -> x.often(1, f), x -> x.line(1, 0));
    }

    static void promise12Line() {
        E.takesLines((x, line) -> x.often(line, 60));
        E.refuses("no line, no frequency", -1, x -> x.often(5, 61));
    }

    static void promise13Line() {
        for (int what = 0; what < 5; what++) {
            int asked = what;
            E.takesLines((x, line) -> x.line(line, asked));
        }
    }

    static void promise13What() {
        E.takes(Edges::busy, 0, 4, (x, what) -> x.line(3, what));
        int[] want = {2, 2, 50, 0, 1};
        for (int what = 0; what < want.length; what++) {
            E.is("what " + what, Edges.busy().line(3, what), want[what]);
        }
        E.tellsNoRow(x -> x.line(3, 0));
    }

    static void promise14Place() {
        E.takesHalts((x, line, p) -> x.stop(line, p));
    }

    static void promise14NothingAtTheLastOne() {
        LineChoice x = Edges.twelve();
        E.tells("ahead of it", x, x.stop(0, 6), "6 [1, 0]");
        E.tells("the last one", x, x.stop(0, 7), "7 []");
        E.tells("behind it", x, x.stop(0, 8), "-1 []");
        E.tells("of two", x, x.stop(1, 0), "8 [2, 0]");
        E.tells("the last of two", x, x.stop(1, 1), "7 []");
    }
}
