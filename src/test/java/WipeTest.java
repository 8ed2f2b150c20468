/** Promise 4: wipe empties the data, or the text, and nothing else. */
public final class WipeTest {
    public static void main(String[] args) {
        emptiesTheData();
        emptiesTheText();
        emptiesWhatIsEmpty();
        Check.end();
    }

    /** "Empties the data": the text, the canvas and what was drawn stay. */
    private static void emptiesTheData() {
        Press press = Check.press("a\nx\n", "bar x a y count");
        Check.due("draw", Check.draw(press), "1");
        String picture = Check.picture(press, 48, 32);
        press.wipe(true);
        Check.due("column(0) of no data", press.column(0), 1);
        Check.due("column(1) of no data", press.column(1), 0);
        Check.due("picture after wipe(true)", Check.picture(press, 48, 32), picture);
        Check.due("draw without data", Check.draw(press), Check.BAD_TEXT);
        Check.due("what was drawn stays", Check.picture(press, 48, 32), picture);
        Check.feedData(press, "a\n1\n2\n");
        Check.due("draw by the text that stayed", Check.draw(press), "2");
    }

    /** "or the text": the data, the canvas and what was drawn stay. */
    private static void emptiesTheText() {
        Press press = Check.press("a\n1\n2\n", "bar x a y count");
        Check.due("draw", Check.draw(press), "2");
        press.wipe(false);
        Check.due("column(0) of the data that stayed", press.column(0), 1);
        Check.due("draw without text", Check.draw(press), Check.BAD_TEXT);
        Check.due("what was drawn stays", press.figure(0), 2);
        Check.feedText(press, "line x a y min a");
        Check.due("draw by another text", Check.draw(press), "2");
        Check.due("value(1)", press.value(1), 2000);
    }

    /** Also when there is nothing to empty, and twice. */
    private static void emptiesWhatIsEmpty() {
        Press press = new Press();
        press.wipe(true);
        press.wipe(true);
        press.wipe(false);
        press.wipe(false);
        Check.due("column(0)", press.column(0), 1);
        Check.due("draw", Check.draw(press), Check.BAD_TEXT);
        Check.refill(press, "a\n1\n", "bar x a y count");
        Check.due("draw", Check.draw(press), "1");
    }
}
