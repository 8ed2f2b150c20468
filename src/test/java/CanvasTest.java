/** Promise 5: the canvas. */
public final class CanvasTest {
    private static final String NOTHING = "-1 -1 -1 -1 -1 -1 -1";

    public static void main(String[] args) {
        widthsAndHeights();
        fromNowOn();
        whatWasDrawnIsGone();
        otherNumbersChangeNothing();
        dataAndTextStay();
        Check.end();
    }

    /** "w (20 .. 96) by h (18 .. 64)": each is refused for itself. */
    private static void widthsAndHeights() {
        int[] widths = {Integer.MIN_VALUE, -48, -1, 0, 1, 18, 19, 20, 21, 95, 96, 97, 256 + 48, 65536 + 48, Integer.MAX_VALUE};
        int[] heights = {Integer.MIN_VALUE, -32, -1, 0, 1, 17, 18, 19, 63, 64, 65, 96, 256 + 32, 65536 + 32, Integer.MAX_VALUE};
        Press press = new Press();
        for (int w : widths) {
            for (int h : heights) {
                boolean want = w >= 20 && w <= 96 && h >= 18 && h <= 64;
                Check.due("canvas(" + w + ", " + h + ")", press.canvas(w, h), want);
            }
        }
    }

    /** "from now on": the next draw has its size. */
    private static void fromNowOn() {
        Press press = Check.press(96, 64, "a\n1\n", "bar x a y count");
        Check.due("draw", Check.draw(press), "1");
        Check.due("pixel(95, 63)", press.pixel(95, 63), 0);
        Check.due("pixel(94, 56), the axis' end", press.pixel(94, 56), 1);
        Check.due("pixel(96, 63)", press.pixel(96, 63), -1);
        Check.due("pixel(95, 64)", press.pixel(95, 64), -1);
        Check.due("canvas", press.canvas(20, 18), true);
        Check.due("draw", Check.draw(press), "1");
        Check.due("pixel(18, 10), the axis' end", press.pixel(18, 10), 1);
        Check.due("pixel(20, 17)", press.pixel(20, 17), -1);
        Check.due("pixel(19, 18)", press.pixel(19, 18), -1);
    }

    /** "what was drawn is gone then (also if these are the numbers that it had)" */
    private static void whatWasDrawnIsGone() {
        int[][] sizes = {{48, 32}, {20, 18}, {96, 64}, {49, 32}, {48, 33}};
        for (int[] size : sizes) {
            Press press = Check.press("a\n1\n", "bar x a y count");
            Check.due("draw", Check.draw(press), "1");
            Check.due("canvas", press.canvas(size[0], size[1]), true);
            Check.due("figures", Check.figures(press), NOTHING);
            Check.due("value(0)", press.value(0), 0);
            Check.due("pixel(0, 0)", press.pixel(0, 0), -1);
            Check.due("back to what it was", press.canvas(48, 32), true);
            Check.due("figures, which do not come back", Check.figures(press), NOTHING);
            Check.due("draw again", Check.draw(press), "1");
            Check.due("figure(0)", press.figure(0), 1);
        }
    }

    /** "False (changing nothing) for other numbers.": neither the canvas nor what was drawn. */
    private static void otherNumbersChangeNothing() {
        Press press = Check.press("a\n1\n", "bar x a y count");
        Check.due("draw", Check.draw(press), "1");
        String picture = Check.picture(press, 48, 32);
        int[][] sizes = {{97, 32}, {48, 17}, {19, 32}, {48, 65}, {0, 0}, {-48, -32}};
        for (int[] size : sizes) {
            Check.due("canvas", press.canvas(size[0], size[1]), false);
            Check.due("picture", Check.picture(press, 48, 32), picture);
            Check.due("pixel(48, 0)", press.pixel(48, 0), -1);
            Check.due("pixel(0, 32)", press.pixel(0, 32), -1);
            Check.due("figure(0)", press.figure(0), 1);
        }
        Check.due("draw again", Check.draw(press), "1");
        Check.due("picture", Check.picture(press, 48, 32), picture);
    }

    private static void dataAndTextStay() {
        Press press = Check.press("a\nx\n", "bar x a y count");
        Check.due("canvas", press.canvas(30, 30), true);
        Check.due("column(0)", press.column(0), 3);
        Check.due("draw", Check.draw(press), "1");
    }
}
