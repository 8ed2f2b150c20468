/** Promise 3: the chart's text is appended alike. */
public final class TextTest {
    public static void main(String[] args) {
        refusesOtherBytes();
        refusesMoreThanHundredAndSixty();
        appendsInOrder();
        Check.end();
    }

    private static void refusesOtherBytes() {
        for (int code = 1; code < 256; code++) {
            boolean allowed = code >= 32 && code <= 126;
            for (int shift = 0; shift < 64; shift += 8) {
                Check.due("text with " + code + " at " + shift, new ChartPress().text((long) code << shift), allowed);
            }
        }
        ChartPress press = Check.press("a\n1\n", "bar x a y coun");
        Check.due("t before a LF", press.text(0x740a), false);
        Check.due("draw without the t", Check.draw(press), "IllegalStateException");
        Check.due("t alone", press.text(0x74), true);
        Check.due("draw with the t", Check.draw(press), "1");
    }

    private static void refusesMoreThanHundredAndSixty() {
        ChartPress press = Check.press("a\n1\n", "bar x a y count ");
        for (int i = 0; i < 17; i++) {
            Check.due("eight blanks", press.text(Check.eight("        ")), true);
        }
        Check.due("up to 153", press.text(Check.eight(" ")), true);
        Check.due("up to 161", press.text(Check.eight("ticks  9")), false);
        Check.due("up to 160", press.text(Check.eight("ticks 9")), true);
        Check.due("up to 161", press.text(Check.eight("9")), false);
        Check.due("nothing more", press.text(0), true);
        Check.due("draw", Check.draw(press), "1");
        Check.due("ticks of 0 .. 1", press.figure(5), 6);
        press.wipe(false);
        Check.due("after wipe", press.text(Check.eight("9")), true);
    }

    private static void appendsInOrder() {
        ChartPress press = Check.press("a\n1\n", "");
        Check.due("text", press.text(0x0062_0061_0072_0020L), true);
        Check.due("text", press.text(Check.eight("x a y co")), true);
        Check.due("text", press.text(0x75_0000_6e00_0074L), true);
        Check.due("draw", Check.draw(press), "1");
    }
}
