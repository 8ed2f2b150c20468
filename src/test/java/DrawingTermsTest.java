/** The sentences of "DRAWING", one method for each that names an edge. */
public final class DrawingTermsTest {
    public static void main(String[] args) {
        allPixelsZeroFirst();
        axes();
        ticksWithoutLabels();
        characters();
        labelsOverAxes();
        nothingLiesOnLabels();
        coloursOfSeries();
        barColumns();
        barRows();
        segmentsOneOnTheOther();
        segmentsOfBothSigns();
        segmentsInOneRow();
        segmentsOfZero();
        pointsInTheArea();
        pointsBesideOneAnother();
        lineOfOnePoint();
        linesUpAndDown();
        linesOfAllSlopes();
        Check.end();
    }

    /** "one over the other: all pixels 0": nothing of the chart before is left. */
    private static void allPixelsZeroFirst() {
        String data = "n,v\n1,1\n2,5\n4,2\n";
        Press once = Check.press(data, "line x n y max v");
        Check.draw(once);
        Press again = Check.press(data, "bar x n y max v ticks 9");
        Check.draw(again);
        Check.refill(again, data, "line x n y max v");
        Check.draw(again);
        Check.due("a line after bars", Check.picture(again, 48, 32), Check.picture(once, 48, 32));
        // Nor is anything of a chart on a greater canvas.
        Press great = Check.drawnPress(96, 64, data, "bar x n y max v");
        Check.due("canvas", great.canvas(48, 32), true);
        Check.refill(great, data, "line x n y max v");
        Check.draw(great);
        Check.due("on a smaller canvas", Check.picture(great, 48, 32), Check.picture(once, 48, 32));
        Check.due("canvas", great.canvas(96, 64), true);
        Check.draw(great);
        Press alone = Check.drawnPress(96, 64, data, "line x n y max v");
        Check.due("on the greater one again", Check.picture(great, 96, 64), Check.picture(alone, 96, 64));
    }

    /** "column LEFT - 1 from 1 to H - 9; row H - 8 from LEFT - 1 to W - 2; a pixel at LEFT - 2 in the row of each tick" */
    private static void axes() {
        // LEFT is 6; the ticks 0, 1, 2 are in the rows 9, 5 and 1.
        Press press = Check.drawnPress(20, 18, "a,v\n1,2\n2,0\n", "bar x a y sum v ticks 3");
        Check.due("column LEFT - 1", Check.downward(press, 5, 0, 11), ".1111111111.");
        Check.due("column LEFT - 2", Check.downward(press, 4, 0, 11), ".1...1...1..");
        Check.due("row H - 8", Check.row(press, 10, 4, 20), ".11111111111111.-1");
        Check.due("row H - 7", Check.row(press, 11, 4, 20), "................-1");
        Check.due("row 0", Check.row(press, 0, 0, 19), ".".repeat(20));
        Check.due("the last column", Check.downward(press, 19, 0, 17), ".".repeat(18));
    }

    /** "(also of those whose labels aren't shown)" */
    private static void ticksWithoutLabels() {
        // Nine ticks in nine rows: the labels of 0 and 6 alone are shown.
        Check.pictureIs(30, 18, "n,v\n1,0\n2,8\n", "line x n y sum v ticks 9", """
            ..............................
            .2.211................3.......
            .2..11..............33........
            .22.11.............3..........
            ....11............3...........
            .2.211..........33............
            ....11.........3..............
            ..2.11........3...............
            .22.11......33................
            ..2211.....3..................
            ...2.111111111111111111111111.
            .22...........................
            ..........222........2.2......
            ...........22.........2.......
            ..........2.2........2.2......
            ...........22.................
            ..........22...........2......
            ..............................
            """);
    }

    /** "the character with code c has in column i, row j ... one if bit 3 j + i of (c * 7919) >> 3 is 1; the next one begins 4 to the right" */
    private static void characters() {
        Press press = new Press();
        Check.due("canvas", press.canvas(96, 18), true);
        // LF, CR and 32 .. 126, twelve at a time, as the label of a single group.
        StringBuilder all = new StringBuilder("\n\r");
        for (char c = 32; c <= 126; c++) {
            all.append(c);
        }
        for (int i = 0; i < all.length(); i += 12) {
            String label = all.substring(i, Math.min(i + 12, all.length()));
            Check.refill(press, "a\n\"" + label.replace("\"", "\"\"") + "\"\n", "bar x a y count ticks 3");
            Check.due("draw", Check.draw(press), "1");
            // LEFT is 14, the middle of 14 .. 94 is 54.
            int x = 54 - (4 * label.length() - 1) / 2;
            Check.written("a label", press, x, 12, label);
            for (int between = 3; between < 4 * label.length(); between += 4) {
                Check.due("between characters", Check.downward(press, x + between, 12, 16), ".....");
            }
        }
    }

    /** "(its other pixels are left as they are)": the widest label there is room for leaves the axes whole. */
    private static void labelsOverAxes() {
        // The label of the only group is 1 .. 19, its rows are H - 6 .. H - 2.
        Press press = Check.drawnPress(20, 18, "a\nAAAAA\n", "bar x a y count ticks 3");
        Check.due("row H - 8", Check.row(press, 10, 12, 19), ".111111.");
        Check.due("A in row H - 6", Check.row(press, 12, 1, 3), glyphRow('A', 0));
        Check.due("A in row H - 2", Check.row(press, 16, 1, 3), glyphRow('A', 4));
        Check.due("row H - 1", Check.row(press, 17, 0, 19), ".".repeat(20));
    }

    /** The same on each canvas: labels of ticks are above row H - 6 and before LEFT - 2, so nothing lies on anything. */
    private static void nothingLiesOnLabels() {
        for (int w = 20; w <= 96; w += 4) {
            for (int h = 18; h <= 64; h++) {
                Press press = Check.drawnPress(w, h, "a,v\nAAAAA,2\nBBBBB,1\n", "bar x a y sum v ticks 3");
                String picture = Check.picture(press, w, h);
                // LEFT is 6; the ticks 0 and 1 are half the area apart, 2 is in row 1.
                String labels = (h - 9) / 2 >= 6 ? "01AAAAA" : "0AAAAA";
                labels += press.figure(6) == 1 ? "BBBBB" : "";
                Check.due("pixels of labels on " + w + " by " + h, howOften(picture, '2'), ones(labels));
                Check.due("pixels of axes on " + w + " by " + h, howOften(picture, '1'), h - 9 + w - 6 + 3);
            }
        }
    }

    private static long howOften(String picture, char pixel) {
        return picture.chars().filter(c -> c == pixel).count();
    }

    private static long ones(String label) {
        return label.chars().map(c -> Integer.bitCount(c * 7919 >> 3 & 0x7fff)).sum();
    }

    private static String glyphRow(char c, int j) {
        StringBuilder pixels = new StringBuilder();
        for (int i = 0; i < 3; i++) {
            pixels.append((c * 7919 >> 3 >> 3 * j + i & 1) == 1 ? '2' : '.');
        }
        return pixels.toString();
    }

    /** "Marks, 3 + s % 4 for series s": the fifth series has the colour of the first; what is missing is a series, too. */
    private static void coloursOfSeries() {
        Check.pictureIs(26, 20, "n,v,s\np,1,a\np,1,b\np,1,c\np,1,d\np,1,e\nq,2,e\nq,-1,f\nq,-1,\n", "bar x n y sum v stack s", """
            ..........................
            .....2..11................
            ......2..1333333..........
            .......211666666..........
            .......2.1666666..........
            .......2.1555555..........
            ........11444444.3333333..
            .........1333333.3333333..
            ........11333333.4444444..
            .....2.2.1.......4444444..
            ......2..1.......4444444..
            .....2.211.......5555555..
            .222.....1111111111111111.
            ..2....2..................
            .............2.....222....
            .............2.....2.2....
            ..............2....22.....
            ....................2.....
            ............22.....22.....
            ..........................
            """);
        // All twelve that there can be, from below: a segment of 1 has 4 or 5 rows of 55.
        StringBuilder data = new StringBuilder("a,k\n");
        for (char c = 'a'; c <= 'l'; c++) {
            data.append("1,").append(c).append('\n');
        }
        Press press = Check.drawnPress(96, 64, data.toString(), "bar x a y count stack k");
        // Ticks 0, 5, 10, 15: LEFT is 10, the row of v is 55 - 54 v / 15.
        for (int s = 0; s < 12; s++) {
            int row = 55 - (2 * 54 * (s + 1) + 15) / 30;
            Check.due("the upper row of series " + s, press.pixel(10, row), 3 + s % 4);
        }
    }

    /** "the columns of its band but the last one (all, if it has only one)": each band has 2 at least, so 1 is drawn. */
    private static void barColumns() {
        Press press = Check.drawnPress(20, 18, "a\n1\n1\n2\n2\n3\n3\n4\n4\n5\n5\n6\n6\n", "bar x a y count ticks 3");
        for (int y = 1; y <= 9; y++) {
            Check.due("row " + y, Check.row(press, y, 6, 19), "3.3.3.3.3.33..");
        }
        Check.due("one group", Check.row(Check.drawnPress(20, 18, "a\n1\n1\n", "bar x a y count ticks 3"), 4, 6, 19), "333333333333..");
    }

    /** "all rows from the row of its lower end to that of its upper end": of 0, too, on both sides of it. */
    private static void barRows() {
        // -2 .. 2 in nine rows: 0 is in row 5. LEFT is 10, the bands of 4 groups on 31 are 5 wide.
        Press press = Check.drawnPress(31, 18, "a,v\n1,2\n2,-2\n3,1\n4,-0.5\n", "bar x a y sum v");
        Check.due("2", Check.downward(press, 10, 1, 9), "33333....");
        Check.due("-2", Check.downward(press, 15, 1, 9), "....33333");
        Check.due("1", Check.downward(press, 20, 1, 9), "..333....");
        Check.due("-0.5", Check.downward(press, 25, 1, 9), "....33...");
    }

    /** "those above 0 one on the other from 0 upward ... without the row of the end that is nearer to 0 unless that is 0 itself" */
    private static void segmentsOneOnTheOther() {
        // 0 .. 4 in nine rows: 2 rows for each 1.
        Check.due("1 and 3", stack(18, "1,1,p\n1,3,q\n"), "444444333");
        Check.due("3 and 1", stack(18, "1,3,p\n1,1,q\n"), "443333333");
        Check.due("1, 2 and 1", stack(18, "1,1,p\n1,2,q\n1,1,r\n"), "554444333");
        Check.due("-1 and -3", stack(18, "1,-1,p\n1,-3,q\n"), "333444444");
        Check.due("-3 and -1", stack(18, "1,-3,p\n1,-1,q\n"), "333333344");
        Check.due("-1, -2 and -1", stack(18, "1,-1,p\n1,-2,q\n1,-1,r\n"), "333444455");
    }

    /** The column of the only group of a stack, from the area's uppermost row to its lowest. */
    private static String stack(int h, String rows) {
        Press press = Check.drawnPress(60, h, "a,v,k\n" + rows, "bar x a y sum v stack k");
        return Check.downward(press, (int) press.figure(1), 1, h - 9);
    }

    /** "those below 0 from 0 downward": in order, so that the later of the two at 0 has the row of 0. */
    private static void segmentsOfBothSigns() {
        // -2 .. 2 in nine rows.
        Check.due("2 and -2", stack(18, "1,2,p\n1,-2,q\n"), "333344444");
        Check.due("-2 and 2", stack(18, "1,-2,p\n1,2,q\n"), "444443333");
        Check.due("1, -1, 1, -1", stack(18, "1,1,p\n1,-1,q\n1,1,r\n1,-1,s\n"), "553344466");
        Check.due("-1, 1, -1, 1", stack(18, "1,-1,p\n1,1,q\n1,-1,r\n1,1,s\n"), "664443355");
        Check.pictureIs(40, 24, "n,v,s\np,1,u\nq,-3,u\np,2,w\nq,5,w\nr,0,u\nr,,w\n", "bar x n y sum v stack s", """
            ........................................
            ........11.........444444444............
            .........1.........444444444............
            .........1.........444444444............
            .........144444444.444444444............
            .........144444444.444444444............
            ......2..144444444.444444444............
            .....22..133333333.444444444............
            ......221133333333.444444444............
            .......2.1.........333333333............
            .....22..1.........333333333............
            .........1.........333333333............
            .........1.........333333333............
            .....222.1..............................
            .....2.2.1..............................
            .....22.11..............................
            .222..22.111111111111111111111111111111.
            ..2....2................................
            ..............2.......222.......2.2.....
            ..............2.......2.2.......2.......
            ...............2......22........22......
            .......................2..........2.....
            .............22.......22........22......
            ........................................
            """);
    }

    /** "or both are the same row": such a segment is drawn in it, over the one before. */
    private static void segmentsInOneRow() {
        // 0 .. 4 in nine rows: 0.2 more or less is in the same row.
        Check.due("2, 0.2 and 1.8", stack(18, "1,2,p\n1,0.2,q\n1,1.8,r\n"), "555543333");
        Check.due("0.2 and 3.8", stack(18, "1,0.2,p\n1,3.8,q\n"), "444444443");
        Check.due("0.1, 0.1 and 3.8", stack(18, "1,0.1,p\n1,0.1,q\n1,3.8,r\n"), "555555554");
        Check.due("-2, -0.2 and -1.8", stack(18, "1,-2,p\n1,-0.2,q\n1,-1.8,r\n"), "333345555");
        Check.due("a bar of one row", bar(18, "1,0.2\n2,4\n"), "........3");
        Check.due("a bar of one row below 0", bar(18, "1,-0.2\n2,-4\n"), "3........");
        Check.pictureIs(24, 18, "n,v,s\np,100,a\np,1,b\np,1,c\nq,0.1,a\nq,-0.1,b\n", "bar x n y sum v stack s ticks 3", """
            ........................
            ................11......
            .................1......
            .................15.....
            .................13.....
            ................113.44..
            .................1......
            .....2.2..2...2..1......
            ......2..22..22..1......
            .....2.2..22..2211......
            .222.......2...2.111111.
            ..2....2.22..22.........
            ..................2.....
            ..................2.....
            ...................2....
            ........................
            .................22.....
            ........................
            """);
    }

    /** The first column of the first of two bars. */
    private static String bar(int h, String rows) {
        Press press = Check.drawnPress(60, h, "a,v\n" + rows, "bar x a y sum v");
        return Check.downward(press, (int) press.figure(1), 1, h - 9);
    }

    /** "(one of value 0 is not drawn)" */
    private static void segmentsOfZero() {
        Check.due("a bar of 0", bar(18, "1,0\n2,4\n"), ".........");
        Check.due("a bar of 0 among those below 0", bar(18, "1,0\n2,-4\n"), ".........");
        Check.due("bars of 0 alone", bar(18, "1,0\n2,0\n"), ".........");
        Check.due("a sum of nothing", bar(18, "1,\n2,4\n"), ".........");
        Check.due("2, 0 and 2", stack(18, "1,2,p\n1,0,q\n1,2,r\n"), "555533333");
        Check.due("0 and 4", stack(18, "1,0,p\n1,4,q\n"), "444444444");
        Check.due("4 and 0", stack(18, "1,4,p\n1,0,q\n"), "333333333");
        // A mean of a third of a thousandth is not 0.
        Press press = Check.drawnPress(60, 18, "a,v\n1,0.001\n1,0\n1,0\n2,4\n", "bar x a y mean v");
        Check.due("a bar of a third of a thousandth", Check.downward(press, (int) press.figure(1), 1, 9), "........3");
    }

    /** "point: the pixel at middle and row, and the four beside it that are in the area" */
    private static void pointsInTheArea() {
        // Bands of 2 columns begin at their middle, LEFT + 2 i: the first point is at LEFT, and none goes into the axes.
        Press narrow = Check.drawnPress(23, 18, "a,v\n1,1\n2,2\n3,0\n4,2\n5,0\n6,2\n7,0\n8,2\n", "point x a y sum v ticks 3");
        Check.due("row 0", Check.row(narrow, 0, 4, 22), "...................");
        Check.due("row 1", Check.row(narrow, 1, 4, 22), "11.333.333.333.333.");
        Check.due("row 4", Check.row(narrow, 4, 4, 22), ".13................");
        Check.due("row 5", Check.row(narrow, 5, 4, 22), "1133...............");
        Check.due("row 6", Check.row(narrow, 6, 4, 22), ".13................");
        Check.due("column LEFT - 1", Check.downward(narrow, 5, 1, 10), "1111111111");
        Check.due("row H - 8", Check.row(narrow, 10, 5, 22), "11111111111111111.");
        Check.due("column W - 1", Check.downward(narrow, 22, 0, 17), ".".repeat(18));
        Check.pictureIs(20, 19, "n,v\n1,0\n2,1\n3,2\n4,1\n5,0\n", "point x n y sum v ticks 3", """
            ....................
            ....11....333.......
            .....1.....3........
            .....1..............
            .....1...3....3.....
            ....11..333..333....
            .....1...3....3.....
            .....1..............
            ..2..1..............
            .22..13..........3..
            ..221133........333.
            ...2.11111111111111.
            .22.................
            .....222..22....222.
            ......22...22...2.2.
            .....2.2....2...22..
            ......22...2.....22.
            .....22.....2.....2.
            ....................
            """);
    }

    /** All five pixels, where the area has them. */
    private static void pointsBesideOneAnother() {
        // LEFT is 6, the area 6 .. 18 and 1 .. 9, its middle 12; 1 of 0 .. 2 is in row 5.
        Press press = Check.drawnPress(20, 18, "a,v\n1,1\n", "point x a y sum v ticks 3");
        Check.due("row 3", Check.row(press, 3, 6, 18), ".............");
        Check.due("row 4", Check.row(press, 4, 6, 18), "......3......");
        Check.due("row 5", Check.row(press, 5, 6, 18), ".....333.....");
        Check.due("row 6", Check.row(press, 6, 6, 18), "......3......");
        Check.due("row 7", Check.row(press, 7, 6, 18), ".............");
    }

    /** "line: the points (one pixel)": of one group there is nothing else. */
    private static void lineOfOnePoint() {
        Press press = Check.drawnPress(20, 18, "a,v\n1,1\n", "line x a y sum v ticks 3");
        for (int y = 1; y <= 9; y++) {
            Check.due("row " + y, Check.row(press, y, 6, 18), y == 5 ? "......3......" : ".............");
        }
    }

    /** "between each two neighbours the straight line ... from the left point on" */
    private static void linesUpAndDown() {
        Check.pictureIs(40, 24, "n,v\n1,1\n2,5\n4,2\n", "line x n y max v", """
            ........................................
            ....11................3.................
            .....1...............3.3................
            .....1..............3...3...............
            ....11..............3....3..............
            .....1.............3......3.............
            .22..1............3........33...........
            ..22.1...........3...........3..........
            ...211...........3............3.........
            ..2..1..........3..............3........
            ...2.1.........3................3.......
            ....11........3..................3......
            .....1.......3..........................
            .222.1.......3..........................
            ..22.1......3...........................
            .2.211.....3............................
            ..22.1111111111111111111111111111111111.
            .22.....................................
            ..........222........2.2........2.......
            ...........22.........2..........2......
            ..........2.2........2.2..........2.....
            ...........22.....................2.....
            ..........22...........2..........2.....
            ........................................
            """);
        // Only the first label is shown; its characters are c, LF and a comma. The last two points are level.
        Check.pictureIs(40, 20, "n,v\nabcde,1\nb,2\n\"c\n,\",3\nfghij,1\n", "line x n y sum v order down", """
            ........................................
            .2.2..22.22211..3.......................
            ..2..22..2.2.1...3......................
            .2.2.222.22.11....3.....................
            ..........22.1.....33...................
            ...2.22....2.1.......3..................
            ............11........3.................
            .............1.........3................
            ............11..........3...............
            .........222.1...........33.............
            ..........22.1.............3............
            .........2.211..............33333333....
            ..........22.11111111111111111111111111.
            .........22.............................
            ...........2.2..2...2...................
            ...........2...2.2...2..................
            ...........22...2.......................
            ...........222.22..2.2..................
            ...........222..2...2...................
            ........................................
            """);
    }

    /** The document's rule of e, for steep and flat lines, and for those where 2 e is just dy, or dx. */
    private static void linesOfAllSlopes() {
        for (int w = 20; w <= 96; w += 4) {
            for (int h = 18; h <= 64; h += 3) {
                Press press = Check.drawnPress(w, h, "a,v\np,0\nq,2\nr,1\n", "line x a y sum v ticks 3");
                int area = w - 7;
                int[] xs = {(6 + 6 + area / 3 - 1) / 2, (6 + area / 3 + 6 + 2 * area / 3 - 1) / 2, (6 + 2 * area / 3 + 6 + area - 1) / 2};
                int[] ys = {h - 9, 1, h - 9 - (h - 10 + 1) / 2};
                boolean[] due = new boolean[w * h];
                markLine(due, w, xs[0], ys[0], xs[1], ys[1]);
                markLine(due, w, xs[1], ys[1], xs[2], ys[2]);
                Check.due("lines on " + w + " by " + h, marks(press, w, h), shown(due, w, h));
            }
        }
    }

    private static void markLine(boolean[] due, int w, int x, int y, int x2, int y2) {
        int dx = Math.abs(x2 - x);
        int dy = -Math.abs(y2 - y);
        int e = dx + dy;
        due[y * w + x] = true;
        while (x != x2 || y != y2) {
            int was = e;
            if (2 * was >= dy) {
                e += dy;
                x++;
            }
            if (2 * was <= dx) {
                e += dx;
                y += Integer.signum(y2 - y);
            }
            due[y * w + x] = true;
        }
    }

    private static String marks(Press press, int w, int h) {
        StringBuilder all = new StringBuilder();
        for (int i = 0; i < w * h; i++) {
            all.append(press.pixel(i % w, i / w) == 3 ? '3' : '.').append(i % w == w - 1 ? "\n" : "");
        }
        return all.toString();
    }

    private static String shown(boolean[] due, int w, int h) {
        StringBuilder all = new StringBuilder();
        for (int i = 0; i < w * h; i++) {
            all.append(due[i] ? '3' : '.').append(i % w == w - 1 ? "\n" : "");
        }
        return all.toString();
    }
}
