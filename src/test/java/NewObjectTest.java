/** Promise 1: "No data, no text, a canvas of 48 by 32, nothing drawn." */
public final class NewObjectTest {
    public static void main(String[] args) {
        noData();
        noText();
        canvas();
        nothingDrawn();
        eachObjectForItself();
        Check.end();
    }

    private static void noData() {
        Press press = new Press();
        Check.due("column(0), without a name", press.column(0), 1);
        Check.due("column(1)", press.column(1), 0);
        Check.due("draw without data and text", Check.draw(press), Check.BAD_TEXT);
        Check.feedData(press, "a".repeat(400));
        Check.due("the 401st character", press.data('a'), false);
    }

    private static void noText() {
        Press press = new Press();
        Check.feedData(press, "a\n1\n");
        Check.due("draw without text", Check.draw(press), Check.BAD_TEXT);
        Check.feedText(press, "bar x a y count" + " ".repeat(145));
        Check.due("the 161st character", press.text(' '), false);
        Check.due("draw", Check.draw(press), "1");
    }

    private static void canvas() {
        Press press = Check.press("a\n1\n", "bar x a y count");
        Check.due("draw", Check.draw(press), "1");
        Check.due("pixel(47, 31)", press.pixel(47, 31), 0);
        Check.due("pixel(48, 31)", press.pixel(48, 31), -1);
        Check.due("pixel(47, 32)", press.pixel(47, 32), -1);
        Check.due("the axis' end", Check.row(press, 24, 45, 47), "11.");
    }

    private static void nothingDrawn() {
        Press press = new Press();
        Check.due("figures", Check.figures(press), "-1 -1 -1 -1 -1 -1 -1");
        for (int i = -1; i <= 8; i++) {
            Check.due("value(" + i + ")", press.value(i), 0);
        }
        for (int y = -1; y <= 32; y++) {
            for (int x = -1; x <= 48; x++) {
                Check.due("pixel(" + x + ", " + y + ")", press.pixel(x, y), -1);
            }
        }
    }

    /** What one object has been given is no other's. */
    private static void eachObjectForItself() {
        Press used = Check.press(96, 64, "a\nx\n", "bar x a y count");
        Check.due("draw", Check.draw(used), "1");
        Press fresh = new Press();
        Check.due("column(0)", fresh.column(0), 1);
        Check.due("draw", Check.draw(fresh), Check.BAD_TEXT);
        Check.due("figure(0)", fresh.figure(0), -1);
        Check.due("column(0) of the one before", used.column(0), 3);
        Check.due("figure(0) of the one before", used.figure(0), 1);
    }
}
