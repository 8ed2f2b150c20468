/** Promise 1: no data, no text, a canvas of 48 by 32, nothing drawn. */
public final class NewObjectTest {
    public static void main(String[] args) {
        ChartPress press = new ChartPress();
        Check.due("figures", Check.figures(press), "-1 -1 -1 -1 -1 -1 -1");
        Check.due("value(0)", press.value(0), 0);
        Check.due("pixel(0, 0)", press.pixel(0, 0), -1);
        Check.due("column(0), one empty name", press.column(0), 1);
        Check.due("column(1)", press.column(1), 0);
        Check.due("draw without data and text", Check.draw(press), "IllegalStateException");
        Check.feedData(press, "a\n1\n");
        Check.due("draw without text", Check.draw(press), "IllegalStateException");
        Check.feedText(press, "bar x a y count");
        Check.due("draw", Check.draw(press), "1");
        Check.due("pixel(47, 31)", press.pixel(47, 31), 0);
        Check.due("pixel(48, 31)", press.pixel(48, 31), -1);
        Check.due("pixel(47, 32)", press.pixel(47, 32), -1);
        Check.end();
    }
}
