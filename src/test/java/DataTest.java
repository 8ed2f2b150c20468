/** Promise 2: data are appended, or refused as a whole. */
public final class DataTest {
    public static void main(String[] args) {
        fromTheHighestToTheLowest();
        zerosLeftOut();
        otherBytesRefused();
        refusedAsAWhole();
        moreThanFourHundredRefused();
        fullData();
        fourHundredThatCanBeRead();
        whatWasDrawnStays();
        Check.end();
    }

    /** "the characters that are the bytes of eight, from the highest to the lowest: true" */
    private static void fromTheHighestToTheLowest() {
        Press press = new Press();
        Check.due("eight characters", press.data(Check.eight("b\n345678")), true);
        Check.feedText(press, "bar x b y max b");
        Check.due("draw", Check.draw(press), "1");
        Check.due("value", press.value(0), 345678000);
        Check.due("as many more", press.data(Check.eight(".25\n1\n22")), true);
        Check.due("draw", Check.draw(press), "3");
        Check.due("values", Check.values(press), "1000 22000 345678250");
    }

    /** "zeros left out": wherever they stand, and also when there is nothing else. */
    private static void zerosLeftOut() {
        Press press = new Press();
        Check.due("nothing", press.data(0), true);
        Check.due("a, LF and zeros between", press.data(0x0061_0000_0a00_0000L), true);
        Check.due("12 and LF", press.data(0x0031_0032_0000_000aL), true);
        Check.due("nothing", press.data(0), true);
        Check.feedText(press, "bar x a y max a");
        Check.due("draw", Check.draw(press), "1");
        Check.due("value, 12 and not 21", press.value(0), 12000);
    }

    /** "Refused (false) when a byte is neither 0 nor 10, 13 or 32 .. 126": in each of the eight places. */
    private static void otherBytesRefused() {
        for (int code = 1; code < 256; code++) {
            boolean allowed = code == 10 || code == 13 || code >= 32 && code <= 126;
            for (int shift = 0; shift < 64; shift += 8) {
                Check.due("data with " + code + " at " + shift, new Press().data((long) code << shift), allowed);
            }
        }
        Check.due("data of -1", new Press().data(-1), false);
        Check.due("data of the least long", new Press().data(Long.MIN_VALUE), false);
        Check.due("data of the greatest long", new Press().data(Long.MAX_VALUE), false);
    }

    /** A refused call changes nothing: no byte before the wrong one is kept, nor one behind it. */
    private static void refusedAsAWhole() {
        Press press = Check.press("a\n1", "");
        Check.due("x before a byte 1", press.data(0x7801), false);
        Check.due("x behind a byte 200", press.data(0xc878), false);
        Check.due("x on both sides of a byte 127", press.data(0x787f78), false);
        Check.due("column(0) without the x", press.column(0), 1);
        Check.due("x alone", press.data(0x78), true);
        Check.due("column(0) with the x", press.column(0), 3);
    }

    /** "or there would be more than 400": what is refused is not taken in part. */
    private static void moreThanFourHundredRefused() {
        Press press = new Press();
        for (int i = 0; i < 49; i++) {
            Check.due("data of eight", press.data(Check.eight("aaaaaaaa")), true);
        }
        Check.due("up to 396", press.data(Check.eight("aaaa")), true);
        Check.due("up to 404", press.data(Check.eight("aaaaaaaa")), false);
        Check.due("up to 401", press.data(Check.eight("aaaaa")), false);
        Check.due("up to 400", press.data(Check.eight("aaaa")), true);
        Press eights = new Press();
        for (int i = 0; i < 50; i++) {
            Check.due("data of eight", eights.data(Check.eight("aaaaaaaa")), true);
        }
        Check.due("data of eight more", eights.data(Check.eight("aaaaaaaa")), false);
        // Zeros are not counted.
        Press ones = new Press();
        for (int i = 0; i < 400; i++) {
            Check.due("data of one", ones.data((long) 'a' << i % 8 * 8), true);
        }
        Check.due("data of one more", ones.data('a'), false);
    }

    /** Full data take nothing, refuse one, and take again after a wipe. */
    private static void fullData() {
        Press press = Check.press("a".repeat(400), "");
        Check.due("nothing more", press.data(0), true);
        Check.due("one more", press.data('a'), false);
        Check.due("a wrong one more", press.data(1), false);
        Check.due("the text is not full", press.text(Check.eight("aaaaaaaa")), true);
        press.wipe(false);
        Check.due("one more after a wipe of the text", press.data('a'), false);
        press.wipe(true);
        Check.feedData(press, "b".repeat(400));
        Check.due("one more than 400 again", press.data('b'), false);
    }

    /** All 400 are kept: the last of them is read. */
    private static void fourHundredThatCanBeRead() {
        StringBuilder data = new StringBuilder("aaaaaaa,b,c,d,e\n");
        for (int row = 0; row < 12; row++) {
            data.append("11111,22222,33333,444444,55555").append(row == 11 ? "78" : "5\n");
        }
        Check.due("characters", data.length(), 400);
        Press press = Check.press(data.toString(), "bar x b y sum e");
        Check.due("one more", press.data(Check.eight("x")), false);
        Check.due("column(4), the last value has seven digits", press.column(4), 3);
        press.wipe(true);
        Check.feedData(press, data.substring(0, 399));
        Check.due("column(4) of 399", press.column(4), 1);
        Check.due("draw", Check.draw(press), "1");
        Check.due("value(0)", press.value(0), 11 * 555555000L + 555557000L);
        Check.due("up to 400", press.data('\n'), true);
        Check.due("draw", Check.draw(press), "1");
        Check.due("up to 401", press.data('\n'), false);
    }

    /** Data that are appended, or refused, are not drawn by that. */
    private static void whatWasDrawnStays() {
        Press press = Check.press("a\n1\n", "bar x a y count");
        Check.due("draw", Check.draw(press), "1");
        Check.due("data", press.data(Check.eight("2\n")), true);
        Check.due("data", press.data(1), false);
        Check.due("figure(0)", press.figure(0), 1);
        Check.due("draw", Check.draw(press), "2");
    }
}
