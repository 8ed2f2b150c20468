/** Promise 7: the pixels of what was drawn. What is drawn is in DrawingTermsTest. */
public final class PixelTest {
    public static void main(String[] args) {
        columnAndRow();
        notOnTheCanvas();
        nothingDrawn();
        ofWhatWasDrawn();
        Check.end();
    }

    /** "The pixel in column x, row y": x is told first, and both are from 0. */
    private static void columnAndRow() {
        // LEFT is 6: the axis is column 5 and row 23, the bar of two rows 6 .. 45 and 1 .. 23.
        Press press = Check.press("a\n1\n1\n", "bar x a y count ticks 3");
        Check.due("draw", Check.draw(press), "1");
        Check.due("pixel(5, 23)", press.pixel(5, 23), 1);
        Check.due("pixel(23, 5)", press.pixel(23, 5), 3);
        Check.due("pixel(45, 24)", press.pixel(45, 24), 1);
        Check.due("pixel(46, 24)", press.pixel(46, 24), 1);
        Check.due("pixel(47, 24)", press.pixel(47, 24), 0);
        Check.due("pixel(45, 23)", press.pixel(45, 23), 3);
        Check.due("pixel(46, 23), the band's last column", press.pixel(46, 23), 0);
    }

    /** "-1 when there is none (... it is not on the canvas)" */
    private static void notOnTheCanvas() {
        int[][] sizes = {{20, 18}, {48, 32}, {96, 64}, {21, 63}};
        for (int[] size : sizes) {
            int w = size[0];
            int h = size[1];
            Press press = Check.press(w, h, "a\n1\n", "point x a y count");
            Check.due("draw", Check.draw(press), "1");
            int[][] outside = {
                {-1, 0}, {0, -1}, {w, 0}, {0, h}, {w, h}, {w - 1, h}, {w, h - 1}, {-1, h - 1}, {w - 1, -1}, {96, 0}, {0, 64},
                {Integer.MAX_VALUE, 0}, {0, Integer.MAX_VALUE}, {Integer.MIN_VALUE, 0}, {0, Integer.MIN_VALUE},
                {Integer.MAX_VALUE, Integer.MAX_VALUE}, {Integer.MIN_VALUE, Integer.MIN_VALUE}, {1 << 16, 1 << 16}, {-96, 1}, {192, -1}};
            for (int[] place : outside) {
                Check.due("pixel(" + place[0] + ", " + place[1] + ") on " + w, press.pixel(place[0], place[1]), -1);
            }
            Check.due("pixel(0, 0)", press.pixel(0, 0), 0);
            Check.due("pixel(w - 1, 0)", press.pixel(w - 1, 0), 0);
            Check.due("pixel(0, h - 1)", press.pixel(0, h - 1), 0);
            Check.due("pixel(w - 1, h - 1)", press.pixel(w - 1, h - 1), 0);
        }
    }

    /** "(nothing was drawn ...)": not yet, or the canvas is another. */
    private static void nothingDrawn() {
        Press press = Check.press("a\n1\n", "point x a y count");
        Check.due("pixel(0, 0) before anything is drawn", press.pixel(0, 0), -1);
        Check.due("draw", Check.draw(press), "1");
        Check.due("pixel(0, 0)", press.pixel(0, 0), 0);
        Check.due("canvas", press.canvas(48, 32), true);
        Check.due("pixel(0, 0) when it is gone", press.pixel(0, 0), -1);
        Press failed = Check.press("a\n", "point x a y count");
        Check.due("draw", Check.draw(failed), Check.BAD_COUNT);
        Check.due("pixel(0, 0) when nothing could be drawn", failed.pixel(0, 0), -1);
    }

    /** "of what was drawn": other data and texts change nothing before the next draw. */
    private static void ofWhatWasDrawn() {
        Press press = Check.press("a,v\n1,5\n2,6\n", "bar x a y sum v");
        Check.due("draw", Check.draw(press), "2");
        String picture = Check.picture(press, 48, 32);
        Check.refill(press, "a,v\n1,7\n", "line x a y sum v");
        Check.due("picture, not drawn yet", Check.picture(press, 48, 32), picture);
        press.wipe(true);
        press.wipe(false);
        Check.due("picture after both wipes", Check.picture(press, 48, 32), picture);
    }
}
