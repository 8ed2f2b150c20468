/** Promise 8: the figures of what was drawn. How they come about is in ScalesTermsTest and LayoutTermsTest. */
public final class FigureTest {
    public static void main(String[] args) {
        eachFigure();
        firstAndLastOfMinusOne();
        others();
        nothingDrawn();
        ofWhatWasDrawn();
        Check.end();
    }

    /** "0 how many groups, 1 LEFT, 2 FIRST, 3 LAST, 4 the step (these three in thousandths), 5 how many ticks, 6 k of the labels" */
    private static void eachFigure() {
        Press press = Check.drawnPress(48, 32, "a,v\nabcd,-3\nefgh,7.5\nijkl,2\n", "bar x a y sum v ticks 4");
        // -3 .. 7.5 with four ticks at most: -5, 0, 5, 10. The middles 15, 27 and 40 are too near for labels of 15.
        long[] due = {3, 10, -5000, 10000, 5000, 4, 2};
        for (int what = 0; what < due.length; what++) {
            Check.due("figure(" + what + ")", press.figure(what), due[what]);
        }
    }

    /** "(FIRST and LAST can be -1, too.)" */
    private static void firstAndLastOfMinusOne() {
        Check.figuresAre("a,v\n1,-0.001\n2,0\n", "point x a y sum v", "2 26 -1 0 1 2 1");
        Check.figuresAre("a,v\n1,-0.002\n2,-0.001\n", "point x a y sum v", "2 26 -2 -1 1 2 1");
    }

    /** "-1 for others" */
    private static void others() {
        Press press = Check.press("a,v\n1,5\n2,6\n", "bar x a y sum v");
        Check.due("draw", Check.draw(press), "2");
        int[] others = {-1, 7, 8, 256, 65536, Integer.MAX_VALUE, Integer.MIN_VALUE, Integer.MIN_VALUE + 1};
        for (int what : others) {
            Check.due("figure(" + what + ")", press.figure(what), -1);
        }
    }

    /** "or when nothing was drawn" */
    private static void nothingDrawn() {
        Press press = Check.press("a,v\n1,5\n2,6\n", "bar x a y sum v");
        Check.due("figures before anything is drawn", Check.figures(press), "-1 -1 -1 -1 -1 -1 -1");
        Check.due("draw", Check.draw(press), "2");
        Check.due("figures", Check.figures(press), "2 6 0 6000 2000 4 1");
        Check.due("canvas", press.canvas(48, 32), true);
        Check.due("figures when it is gone", Check.figures(press), "-1 -1 -1 -1 -1 -1 -1");
    }

    /** "Of what was drawn": not of data, text and canvas as they are now. */
    private static void ofWhatWasDrawn() {
        Press press = Check.press("a,v\n1,5\n2,6\n", "bar x a y sum v");
        Check.due("draw", Check.draw(press), "2");
        Check.refill(press, "a,v\n1,-7\n", "bar x a y sum v");
        Check.due("figures, not drawn yet", Check.figures(press), "2 6 0 6000 2000 4 1");
        Check.due("draw", Check.draw(press), "1");
        Check.due("figures", Check.figures(press), "1 10 -8000 0 2000 5 1");
    }
}
