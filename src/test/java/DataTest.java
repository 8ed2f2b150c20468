/** Promise 2: data are appended, or refused as a whole. */
public final class DataTest {
    public static void main(String[] args) {
        appendsFromTheHighestByte();
        refusesOtherBytes();
        refusesMoreThanFourHundred();
        keepsFourHundredThatCanBeRead();
        Check.end();
    }

    private static void appendsFromTheHighestByte() {
        ChartPress press = new ChartPress();
        Check.due("nothing", press.data(0), true);
        Check.due("a, LF and zeros between", press.data(0x0061_0000_0a00_0000L), true);
        Check.due("12 and LF", press.data(0x0031_0032_0000_000aL), true);
        Check.feedText(press, "bar x a y max a");
        Check.due("draw", Check.draw(press), "1");
        Check.due("value, 12 and not 21", press.value(0), 12000);
        ChartPress full = new ChartPress();
        Check.due("eight characters", full.data(Check.eight("b\n345678")), true);
        Check.feedText(full, "bar x b y max b");
        Check.due("draw", Check.draw(full), "1");
        Check.due("value", full.value(0), 345678000);
    }

    private static void refusesOtherBytes() {
        for (int code = 1; code < 256; code++) {
            boolean allowed = code == 10 || code == 13 || code >= 32 && code <= 126;
            for (int shift = 0; shift < 64; shift += 8) {
                Check.due("data with " + code + " at " + shift, new ChartPress().data((long) code << shift), allowed);
            }
        }
        ChartPress press = Check.press("a\n1", "");
        Check.due("x before a byte 1", press.data(0x7801), false);
        Check.due("x behind a byte 200", press.data(0xc878), false);
        Check.due("column(0) without the x", press.column(0), 1);
        Check.due("x alone", press.data(0x78), true);
        Check.due("column(0) with the x", press.column(0), 3);
    }

    private static void refusesMoreThanFourHundred() {
        ChartPress press = new ChartPress();
        for (int i = 0; i < 49; i++) {
            Check.due("data of eight", press.data(Check.eight("aaaaaaaa")), true);
        }
        Check.due("up to 396", press.data(Check.eight("aaaa")), true);
        Check.due("up to 404", press.data(Check.eight("aaaaaaaa")), false);
        Check.due("up to 401", press.data(Check.eight("aaaaa")), false);
        Check.due("up to 400", press.data(Check.eight("aaaa")), true);
        Check.due("up to 401", press.data(Check.eight("a")), false);
        Check.due("nothing more", press.data(0), true);
        press.wipe(true);
        Check.due("after wipe", press.data(Check.eight("a")), true);
    }

    private static void keepsFourHundredThatCanBeRead() {
        StringBuilder data = new StringBuilder("aaaaaaa,b,c,d,e\n");
        for (int row = 0; row < 12; row++) {
            data.append("11111,22222,33333,444444,555555\n");
        }
        Check.due("characters", data.length(), 400);
        ChartPress press = Check.press(data.toString(), "bar x b y sum e");
        Check.due("one more", press.data(Check.eight("x")), false);
        Check.due("column(4)", press.column(4), 1);
        Check.due("draw", Check.draw(press), "1");
        Check.due("value(0)", press.value(0), 12 * 555555000L);
    }
}
