/** The calls that README.md shows answer what it says. */
public final class ReadmeTest {
    public static void main(String[] args) {
        ChartPress press = new ChartPress();
        Check.due("data", press.data(0x612c620a312c320aL), true);
        Check.due("text", press.text(0x6261722078206120L), true);
        Check.due("text", press.text(0x792073756d2062L), true);
        Check.due("draw", press.draw(), 1);
        Check.due("pixel", press.pixel(20, 10), 3);
        Check.due("figure", press.figure(4), 500);
        Check.due("value", press.value(0), 2000);
        Check.due("column", press.column(0), 1);
        Check.end();
    }
}
