/** Promise 5: the canvas. */
public final class CanvasTest {
    public static void main(String[] args) {
        takesItsNumbersAlone();
        takesAwayWhatWasDrawn();
        drawsInItsSize();
        Check.end();
    }

    private static void takesItsNumbersAlone() {
        int[][] numbers = {
            {20, 18, 1}, {96, 64, 1}, {20, 64, 1}, {96, 18, 1}, {19, 18, 0}, {20, 17, 0}, {97, 64, 0}, {96, 65, 0},
            {0, 0, 0}, {-48, -32, 0}, {Integer.MAX_VALUE, 32, 0}, {48, Integer.MIN_VALUE, 0}};
        for (int[] row : numbers) {
            Check.due("canvas(" + row[0] + ", " + row[1] + ")", new ChartPress().canvas(row[0], row[1]), row[2] == 1);
        }
    }

    private static void takesAwayWhatWasDrawn() {
        ChartPress press = Check.press("a\n1\n", "bar x a y count");
        Check.due("draw", Check.draw(press), "1");
        Check.due("canvas(97, 32)", press.canvas(97, 32), false);
        Check.due("canvas(48, 17)", press.canvas(48, 17), false);
        Check.due("figure(0) after a refusal", press.figure(0), 1);
        Check.due("pixel(48, 0) after a refusal", press.pixel(48, 0), -1);
        Check.due("pixel(47, 0) after a refusal", press.pixel(47, 0), 0);
        Check.due("canvas(48, 32), as it was", press.canvas(48, 32), true);
        Check.due("figures", Check.figures(press), "-1 -1 -1 -1 -1 -1 -1");
        Check.due("value(0)", press.value(0), 0);
        Check.due("pixel(0, 0)", press.pixel(0, 0), -1);
        Check.due("draw again", Check.draw(press), "1");
    }

    private static void drawsInItsSize() {
        ChartPress press = Check.press(96, 64, "a\n1\n", "bar x a y count");
        Check.due("draw", Check.draw(press), "1");
        Check.due("pixel(95, 63)", press.pixel(95, 63), 0);
        Check.due("pixel(94, 56), the axis' end", press.pixel(94, 56), 1);
        Check.due("pixel(96, 63)", press.pixel(96, 63), -1);
        Check.due("pixel(95, 64)", press.pixel(95, 64), -1);
    }
}
