/** The sentences of "LAYOUT", one method for each that names an edge. */
public final class LayoutTermsTest {
    /** Two rows for each label, and ticks 0, 1, 2: LEFT is 6, so the area has W - 7 columns. */
    private static final String PAIRS = "bar x a y count ticks 3";

    public static void main(String[] args) {
        canvasOfOtherSizes();
        leftOfTheWidestTick();
        twoColumnsForEachGroup();
        noAreaAtAll();
        bands();
        bandsOnEachCanvas();
        middles();
        firstAndLastRow();
        halvesUp();
        exactRows();
        labelsAroundTheMiddle();
        labelsNotBeforeZero();
        labelsNotBehindTheEnd();
        strideOfOne();
        twoBehindTheLastColumn();
        greaterStrides();
        onlyEveryKthLabel();
        labelThatDoesNotFit();
        labelsOfTicksEnd();
        labelsOfTicksOnTheCanvas();
        labelOfTheLastTick();
        aRowBetweenLabelsOfTicks();
        Check.end();
    }

    /** Rows "a" ..: of each label as many as said. */
    private static String table(int times, String... labels) {
        StringBuilder data = new StringBuilder("a\n");
        for (String label : labels) {
            data.append((label + "\n").repeat(times));
        }
        return data.toString();
    }

    /** "The CANVAS is W wide and H high, (0, 0) its upper left pixel." */
    private static void canvasOfOtherSizes() {
        int[][] sizes = {{20, 18}, {96, 64}, {20, 64}, {96, 18}, {33, 21}};
        for (int[] size : sizes) {
            Press press = Check.drawnPress(size[0], size[1], table(2, "p"), PAIRS);
            int bottom = size[1] - 9;
            Check.due("the first tick's pixel", press.pixel(4, bottom), 1);
            Check.due("the last tick's pixel", press.pixel(4, 1), 1);
            Check.due("the end of the axis", Check.row(press, bottom + 1, size[0] - 3, size[0]), "11.-1");
            Check.due("the last row", Check.downward(press, 0, size[1] - 1, size[1]), ".-1");
        }
    }

    /** "LEFT is the width of the widest label of all ticks plus 3": also of those that are not shown. */
    private static void leftOfTheWidestTick() {
        String[][] rows = {
            {"2", "6"}, {"9", "10"}, {"-2", "10"}, {"40", "10"}, {"100", "14"}, {"-40", "14"}, {"1000", "18"}, {"0.01", "22"}, {"-0.01", "26"}};
        for (String[] row : rows) {
            Press press = Check.drawnPress(96, 64, "a,v\n1," + row[0] + "\n", "bar x a y sum v ticks 3");
            Check.due("LEFT for a bar of " + row[0], Long.toString(press.figure(1)), row[1]);
        }
        // 10, the last tick, is never shown; of 0, 0.5 and 1 the middle one is not shown on a canvas of 18.
        Check.due("LEFT", Check.drawnPress(96, 18, "a,v\n1,9\n", "bar x a y sum v ticks 3").figure(1), 10);
        Check.due("LEFT", Check.drawnPress(96, 18, "a\n1\n", "bar x a y count").figure(1), 14);
        // The widest label that there can be: twelve characters.
        String wide = "a,v\n" + "1,-999999.999\n".repeat(6) + "2,-999999.998\n" + "2,-999999.999\n".repeat(5);
        Check.figuresAre(wide, "point x a y sum v", "2 50 -5999999994 -5999999993 1 2 1");
    }

    /** "it has at least 2 columns for each group" */
    private static void twoColumnsForEachGroup() {
        // On a canvas of 20 the area has 13 columns, on one of 23 it has 16.
        String[] six = {"p", "q", "r", "s", "t", "u"};
        Check.drawnOn(20, 18, table(2, six), PAIRS, "6");
        String seven = "a,v\np,2\nq,2\nr,2\ns,2\nt,2\nu,2\nv,2\n";
        String sums = "bar x a y sum v ticks 3";
        Check.drawnOn(20, 18, seven, sums, Check.NO_ROOM);
        Check.drawnOn(21, 18, seven, sums, "7");
        Check.drawnOn(22, 18, seven + "w,2\n", sums, Check.NO_ROOM);
        Check.drawnOn(23, 18, seven + "w,2\n", sums, "8");
        // With ticks 0, 0.5 and 1, LEFT is 14: the area of a canvas of 20 has 5 columns, of 21 it has 6.
        Check.drawnOn(20, 18, "a\n1\n2\n", "bar x a y count ticks 3", "2");
        Check.drawnOn(20, 18, "a\n1\n2\n3\n", "bar x a y count ticks 3", Check.NO_ROOM);
        Check.drawnOn(21, 18, "a\n1\n2\n3\n", "bar x a y count ticks 3", "3");
        // One group: ticks of 4 characters leave 1 column of 20, and 2 of 21.
        Check.drawnOn(20, 18, "a,v\n1,1000\n", "line x a y sum v ticks 3", Check.NO_ROOM);
        Check.drawnOn(20, 64, "a,v\n1,1000\n", "bar x a y sum v ticks 3", Check.NO_ROOM);
        Check.drawnOn(21, 64, "a,v\n1,1000\n", "bar x a y sum v ticks 3", "1");
    }

    /** Labels of ticks that are as wide as the canvas, and wider, leave no area. */
    private static void noAreaAtAll() {
        String data = "a,v\n1,-999999.999\n2,-999999.998\n";
        for (int w = 20; w <= 96; w++) {
            // Eleven characters are 43 wide, LEFT is 46: 4 columns up to W - 2 = 49.
            Check.drawnOn(w, 18, data, "point x a y sum v", w < 51 ? Check.NO_ROOM : "2");
        }
    }

    /** "the BAND of group i of n is from LEFT + i * A / n up to LEFT + (i + 1) * A / n - 1 (whole numbers)" */
    private static void bands() {
        // Bars of 2 reach up to row 1, and leave the last column of their band.
        barsAre(20, "333333333333.", "p");
        barsAre(20, "33333.333333.", "p", "q");
        barsAre(20, "333.333.3333.", "p", "q", "r");
        barsAre(20, "33.33.33.333.", "p", "q", "r", "s");
        barsAre(20, "3.33.3.33.33.", "p", "q", "r", "s", "t");
        barsAre(20, "3.3.3.3.3.33.", "p", "q", "r", "s", "t", "u");
        barsAre(21, "333.3333.3333.", "p", "q", "r");
    }

    private static void barsAre(int w, String want, String... labels) {
        Press press = Check.drawnPress(w, 18, table(2, labels), PAIRS);
        Check.due("bars of " + labels.length + " groups on " + w, Check.row(press, 1, 6, w - 2), want);
    }

    /** The same on each canvas: since the area "has at least 2 columns for each group", so has each band. */
    private static void bandsOnEachCanvas() {
        String data = "a,v\n";
        for (int n = 1; n <= 8; n++) {
            data += n + ",2\n";
            for (int w = Math.max(20, 7 + 2 * n); w <= 96; w++) {
                Press press = Check.drawnPress(w, 18, data, "bar x a y sum v ticks 3");
                Check.due("bars of " + n + " groups on " + w, Check.row(press, 1, 6, w - 2), bars(n, w - 7));
            }
        }
    }

    /** Each band but its last column. */
    private static String bars(int n, int area) {
        StringBuilder row = new StringBuilder();
        for (int i = 0; i < n; i++) {
            int columns = (i + 1) * area / n - i * area / n;
            Check.due("the band has at least 2 columns", columns >= 2, true);
            row.append("3".repeat(columns - 1)).append('.');
        }
        return row.toString();
    }

    /** "its MIDDLE is the half of the sum of these two (whole)" */
    private static void middles() {
        // One group: 6 .. 18, and 6 .. 19.
        Check.due("the middle of 13", Check.row(middle(20, "p"), 5, 6, 18), "......3......");
        Check.due("the middle of 14", Check.row(middle(21, "p"), 5, 6, 19), "......3.......");
    }

    /** A line of one point at 1 of 0 .. 2: a single pixel in row 5 of 1 .. 9. */
    private static Press middle(int w, String label) {
        return Check.drawnPress(w, 18, "a,v\n" + label + ",1\n", "line x a y sum v ticks 3");
    }

    /** "The ROW of a value v is H - 9 - R": FIRST is in the area's lowest row, LAST in its uppermost. */
    private static void firstAndLastRow() {
        for (int h = 18; h <= 64; h++) {
            Press press = Check.drawnPress(20, h, "a,v\np,-7\nq,-5\n", "line x a y sum v ticks 3");
            // Ticks of two characters: LEFT is 10, the bands 10 .. 13 and 14 .. 18, the middles 11 and 16.
            Check.due("FIRST on " + h, press.pixel(11, h - 9), 3);
            Check.due("LAST on " + h, press.pixel(16, 1), 3);
            Check.due("above the area on " + h, press.pixel(16, 0), 0);
        }
    }

    /** "to the nearest whole number, halves up": the row of a value between 0 and 2, ticks 0, 1, 2. */
    private static void halvesUp() {
        // Ten rows are 1 .. 10: the value times 9 / 2.
        rowIs(19, "1", 5);
        rowIs(19, "0.999", 6);
        rowIs(19, "1.001", 5);
        rowIs(19, "0.111", 10);
        rowIs(19, "0.112", 9);
        rowIs(19, "1.888", 2);
        rowIs(19, "1.889", 1);
        // Nine rows are 1 .. 9: the value times 4.
        rowIs(18, "1", 5);
        rowIs(18, "0.124", 9);
        rowIs(18, "0.125", 8);
        rowIs(18, "1.374", 4);
        rowIs(18, "1.375", 3);
        rowIs(18, "1.874", 2);
        rowIs(18, "1.875", 1);
        // Below 0, too, a half goes up and not away from 0: -1 of -2 .. 0 is 4.5 rows above the lowest.
        Press press = Check.drawnPress(40, 19, "a,v\np,-2\nq,-1\nr,0\n", "line x a y sum v ticks 3");
        // LEFT is 10, the second band 19 .. 28.
        Check.due("the row of -1", Check.downward(press, 23, 1, 10), "....3.....");
    }

    /** The second of three groups: LEFT is 6, the bands are 6 .. 16, 17 .. 27, 28 .. 38, the middles 11, 22, 33. */
    private static void rowIs(int h, String value, int want) {
        Press press = Check.drawnPress(40, h, "a,v\np,0\nq," + value + "\nr,2\n", "line x a y sum v ticks 3");
        String column = ".".repeat(want - 1) + "3" + ".".repeat(h - 9 - want);
        Check.due("the row of " + value + " on " + h, Check.downward(press, 22, 1, h - 9), column);
    }

    /** A sixth of 0 .. 3 is just a half row of nine; what is cut to thousandths would be less. */
    private static void exactRows() {
        String data = "a,v\np,0\nq,1\n" + "q,0\n".repeat(5) + "r,3\n";
        Press press = Check.drawnPress(40, 19, data, "line x a y mean v ticks 4");
        Check.due("the row of a sixth", Check.downward(press, 22, 1, 10), "........3.");
    }

    /** "each begins at its band's middle less half its width (the half rounded down) ... at row H - 6" */
    private static void labelsAroundTheMiddle() {
        // The middle of 6 .. 94 is 50; widths are 3, 7, 11, 15, 47.
        labelIs(96, "p", 49);
        labelIs(96, "pq", 47);
        labelIs(96, "pqr", 45);
        labelIs(96, "pqrs", 43);
        labelIs(96, "abcdefghijkl", 27);
        // The middle of 6 .. 93 is 49.
        labelIs(95, "p", 48);
        for (int h = 18; h <= 64; h++) {
            Press press = Check.drawnPress(48, h, table(2, "p"), PAIRS);
            Check.written("a label on " + h, press, 25, h - 6, "p");
            Check.due("above it", Check.row(press, h - 7, 6, 47), ".".repeat(42));
            Check.due("below it", Check.row(press, h - 1, 0, 47), ".".repeat(48));
        }
    }

    /** A group of two rows, alone on a canvas 18 high: where its label begins. */
    private static void labelIs(int w, String label, int x) {
        Press press = Check.drawnPress(w, 18, table(2, label), PAIRS);
        int end = x + 4 * label.length() - 1;
        Check.written("a label on " + w, press, x, 12, label);
        for (int y = 12; y <= 16; y++) {
            Check.due("before the label", Check.row(press, y, 6, x - 1), ".".repeat(Math.max(0, x - 6)));
            Check.due("behind the label", Check.row(press, y, end, w - 1), ".".repeat(Math.max(0, w - end)));
        }
    }

    /** "but not before 0" */
    private static void labelsNotBeforeZero() {
        // Six groups on 20: the first middle is 6; widths of 11, 15 and 19 would begin at 1, -1 and -3.
        String[] others = {"q", "r", "s", "t", "u"};
        firstLabelIs("abc", 1, others);
        firstLabelIs("abcd", 0, others);
        firstLabelIs("abcde", 0, others);
        // Four groups on 20: the first middle is 7, so that 15 begins at 0 and 19 would at -2.
        firstLabelIs("abcd", 0, "q", "r", "s");
        firstLabelIs("abcde", 0, "q", "r", "s");
    }

    private static void firstLabelIs(String label, int x, String... others) {
        Press press = Check.drawnPress(20, 18, table(2, label) + table(2, others).substring(2), PAIRS);
        Check.written("the first label", press, x, 12, label);
    }

    /** "and not so that it ends behind W - 1" */
    private static void labelsNotBehindTheEnd() {
        // Of 0, 0.5 and 1 LEFT is 14; the area 14 .. 18 of a canvas of 20 has its middle at 16.
        lastLabelIs("a", 15);
        lastLabelIs("ab", 13);
        lastLabelIs("abc", 9);
        lastLabelIs("abcd", 5);
        lastLabelIs("abcde", 1);
        // As wide as the canvas: it begins at 0.
        Press press = Check.drawnPress(23, 18, "a\nabcdef\n", "bar x a y count ticks 3");
        Check.written("a label as wide as the canvas", press, 0, 12, "abcdef");
    }

    private static void lastLabelIs(String label, int x) {
        Press press = Check.drawnPress(20, 18, "a\n" + label + "\n", "bar x a y count ticks 3");
        Check.written("a label near the end", press, x, 12, label);
    }

    private static void strideIs(int w, long want, String... labels) {
        Press press = Check.drawnPress(w, 18, table(1, labels), "bar x a y count ticks 3");
        Check.due("k of " + String.join(" ", labels) + " on " + w, press.figure(6), want);
    }

    /** "k being the least number from 1 on": 1 for a single label, however wide. */
    private static void strideOfOne() {
        strideIs(96, 1, "abcdefghijkl");
        strideIs(47, 1, "abcdefghijkl");
        strideIs(20, 1, "a");
        strideIs(96, 1, "a", "b", "c", "d", "e", "f", "g", "h");
    }

    /** "for which each begins at least 2 behind the last column of the one before" */
    private static void twoBehindTheLastColumn() {
        // LEFT is 14. On 31 the middles are 17 and 25, the labels 14 .. 20 and 22 .. 28; on 30 the middle is 24.
        strideIs(31, 1, "ab", "cd");
        strideIs(30, 2, "ab", "cd");
        strideIs(29, 2, "ab", "cd");
        // On 60 the middles are 21, 36 and 51: only the last two of 15 columns are too near, 29 .. 43 and 44 .. 58.
        strideIs(60, 1, "a", "b", "abcd");
        strideIs(60, 2, "a", "abcd", "efgh");
        strideIs(61, 1, "a", "abc", "efgh");
        // On 53 the middles are 23 and 42; labels of 19 and 15 are 14 .. 32 and 35 .. 49, of 23 they overlap.
        strideIs(53, 1, "abcde", "fghi");
        strideIs(53, 2, "abcdef", "ghijkl");
        // What counts is where a label is put: on 41 the second is put back from 24 to 22, one behind 19 .. 21.
        strideIs(41, 2, "a", "bcdef");
        strideIs(41, 1, "a", "bcde");
        // The first is put on from -1 to 0, so that it ends at 30, one before the second.
        Press press = Check.drawnPress(43, 18, table(2, "abcdefgh", "i"), PAIRS);
        Check.due("k behind a label that is put on", press.figure(6), 2);
    }

    /** A k as great as there are groups leaves the first label alone. */
    private static void greaterStrides() {
        strideIs(20, 2, "abcde", "fghij");
        String[] eight = {"axx", "bxx", "cxx", "dxx", "exx", "fxx", "gxx", "hxx"};
        strideIs(96, 2, eight);
        String[] wide = new String[8];
        for (int i = 0; i < 8; i++) {
            wide[i] = (char) ('a' + i) + "bcdefghijkl";
        }
        // 47 wide on 96: the first is 0 .. 46, and only the seventh and the eighth can begin at 48 or behind.
        strideIs(96, 6, wide);
        // On 95 the seventh is put back to 48, on 94 to 47.
        strideIs(95, 6, wide);
        strideIs(94, 8, wide);
        // 1 and 2 are not enough, 3 is: labels of 35 at the places 0 and 3.
        strideIs(96, 3, "abcdefghi", "b", "cdefghijk", "d", "e");
    }

    /** "Of the groups 0, k, 2 k, .. the labels are shown": and no others. */
    private static void onlyEveryKthLabel() {
        // LEFT is 14, the area 14 .. 94 has 81 columns, the bands of 8 begin at 14, 24, 34, 44, 54, 64, 74, 84.
        String[] labels = {"axx", "bxx", "cxx", "dxx", "exx", "fxx", "gxx", "hxx"};
        Press press = Check.drawnPress(96, 18, table(1, labels), "bar x a y count ticks 3");
        int[] middles = {18, 28, 38, 48, 58, 68, 78, 89};
        for (int i = 0; i < 8; i += 2) {
            Check.written("label " + i, press, middles[i] - 5, 12, labels[i]);
        }
        for (int y = 12; y <= 16; y++) {
            Check.due("between the labels 0 and 2", Check.row(press, y, 24, 32), ".........");
            Check.due("behind the label 6", Check.row(press, y, 84, 95), "............");
        }
    }

    /** "A label wider than the canvas does not fit.": also one that would not be shown. */
    private static void labelThatDoesNotFit() {
        String label = "abcdefghijkl";
        for (int n = 1; n <= 12; n++) {
            int wide = 4 * n - 1;
            String data = table(1, label.substring(0, n));
            if (wide > 20) {
                Check.drawnOn(wide - 1, 18, data, "bar x a y count ticks 3", Check.NO_ROOM);
            }
            Check.drawnOn(Math.max(20, wide), 18, data, "bar x a y count ticks 3", "1");
        }
        Check.drawnOn(22, 18, table(1, "abcde", "abcdef"), "bar x a y count ticks 3", Check.NO_ROOM);
        Check.drawnOn(22, 18, table(1, "a", "b", "abcdef"), "bar x a y count ticks 3", Check.NO_ROOM);
        Check.drawnOn(23, 18, table(1, "a", "b", "abcdef"), "bar x a y count ticks 3", "3");
        // A value that is no group's label is no matter.
        Check.drawnOn(20, 18, "a,v\nabcdef,1\nb,2\n", "bar x a y sum v where v = 2 ticks 3", "1");
        Check.drawnOn(20, 18, "a,v\nabcdef,\nb,2\n", "bar x a y mean v ticks 3", "1");
        Check.drawnOn(20, 18, "a,v\n1,2\n1.00000,2\n", "bar x a y sum v", Check.NO_ROOM);
        Check.drawnOn(20, 18, "a,v\n1,2\n1.000,2\n", "bar x a y sum v ticks 3", "1");
    }

    /** "Labels of ticks end at LEFT - 3, their middle row is that of the tick" */
    private static void labelsOfTicksEnd() {
        Press press = Check.drawnPress(40, 42, "a\n1\n", "bar x a y count ticks 3");
        // LEFT is 14, the rows are 33, 17 and 1.
        Check.written("0", press, 9, 31, "0");
        Check.written("0.5", press, 1, 15, "0.5");
        for (int y = 0; y < 42; y++) {
            Check.due("column 0", press.pixel(0, y), 0);
            Check.due("column LEFT - 2", press.pixel(12, y), y == 33 || y == 17 || y == 1 ? 1 : 0);
        }
    }

    /** "each is shown that is on the canvas from its upper to its lower row": in row 2, but not in row 1. */
    private static void labelsOfTicksOnTheCanvas() {
        // Seven ticks in nine rows: 9, 8, 6, 5, 4, 2, 1. The label in row 2 is the next with a row between.
        Press press = Check.drawnPress(20, 18, "a,v\n1,6\n", "bar x a y sum v ticks 7");
        Check.due("ticks' pixels", Check.downward(press, 4, 0, 9), ".11.111.11");
        Check.written("0", press, 1, 7, "0");
        Check.written("5", press, 1, 0, "5");
        Check.due("row 5", Check.row(press, 5, 0, 3), "....");
        Check.due("row 6", Check.row(press, 6, 0, 3), "....");
        // Two ticks: the second one's label would be in row 1.
        Press two = Check.drawnPress(20, 64, "a,v\n1,5\n", "bar x a y sum v ticks 3");
        Check.due("ticks", two.figure(5), 2);
        Check.written("0", two, 1, 53, "0");
        for (int y = 0; y < 53; y++) {
            Check.due("row " + y, Check.row(two, y, 0, 3), "....");
        }
    }

    /** The same on each canvas: LAST is in row 1, so the upper row of its label would be -1. */
    private static void labelOfTheLastTick() {
        for (int h = 18; h <= 64; h++) {
            Press press = Check.drawnPress(20, h, table(2, "p"), PAIRS);
            Check.due("the pixel of LAST on a height of " + h, Check.downward(press, 4, 0, 2), ".1.");
            for (int y = 0; y <= 2; y++) {
                Check.due("row " + y + " on a height of " + h, Check.row(press, y, 0, 3), "....");
            }
            Check.written("the label of FIRST on a height of " + h, press, 1, h - 11, "0");
        }
    }

    /** "if its lowest row is above the uppermost of the one shown last with a row between at least" */
    private static void aRowBetweenLabelsOfTicks() {
        // Three ticks in 13 rows: 13, 7, 1. The first label is 11 .. 15, the second 5 .. 9.
        Press six = Check.drawnPress(20, 22, table(2, "p"), PAIRS);
        Check.written("0", six, 1, 11, "0");
        Check.written("1", six, 1, 5, "1");
        // In 12 rows: 12, 6 (5.5 is 6 rows up), 1; in 11 rows: 11, 6, 1, with no row between.
        Press half = Check.drawnPress(20, 21, table(2, "p"), PAIRS);
        Check.written("0", half, 1, 10, "0");
        Check.written("1", half, 1, 4, "1");
        Press five = Check.drawnPress(20, 20, table(2, "p"), PAIRS);
        Check.written("0", five, 1, 9, "0");
        for (int y = 0; y < 9; y++) {
            Check.due("row " + y, Check.row(five, y, 0, 3), "....");
        }
        // Five ticks in 13 rows: 13, 10, 7, 4, 1. The one shown last is what counts, not the one before.
        Press every = Check.drawnPress(20, 22, "a,v\n1,4\n", "bar x a y sum v");
        Check.written("0", every, 1, 11, "0");
        Check.due("row 10", Check.row(every, 10, 0, 3), "....");
        Check.written("2", every, 1, 5, "2");
        Check.due("rows 0 .. 4", Check.downward(every, 1, 0, 4) + Check.downward(every, 2, 0, 4), "..........");
    }
}
