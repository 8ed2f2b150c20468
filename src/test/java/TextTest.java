/** Promise 3: the chart's text is appended alike (32 .. 126, at most 160). */
public final class TextTest {
    public static void main(String[] args) {
        fromTheHighestToTheLowest();
        otherBytesRefused();
        refusedAsAWhole();
        moreThanHundredAndSixtyRefused();
        fullText();
        Check.end();
    }

    /** "alike": the bytes from the highest to the lowest, zeros left out. */
    private static void fromTheHighestToTheLowest() {
        Press press = Check.press("a\n1\n", "");
        Check.due("nothing", press.text(0), true);
        Check.due("text", press.text(0x0062_0061_0072_0020L), true);
        Check.due("text", press.text(Check.eight("x a y co")), true);
        Check.due("text", press.text(0x75_0000_6e00_0074L), true);
        Check.due("draw", Check.draw(press), "1");
    }

    /** "32 .. 126": no LF and no CR, in each of the eight places. */
    private static void otherBytesRefused() {
        for (int code = 1; code < 256; code++) {
            boolean allowed = code >= 32 && code <= 126;
            for (int shift = 0; shift < 64; shift += 8) {
                Check.due("text with " + code + " at " + shift, new Press().text((long) code << shift), allowed);
            }
        }
        Check.due("text of -1", new Press().text(-1), false);
        Check.due("text of the least long", new Press().text(Long.MIN_VALUE), false);
        Check.due("text of the greatest long", new Press().text(Long.MAX_VALUE), false);
    }

    /** A refused call changes nothing. */
    private static void refusedAsAWhole() {
        Press press = Check.press("a\n1\n", "bar x a y coun");
        Check.due("t before a LF", press.text(0x740a), false);
        Check.due("t behind a CR", press.text(0x0d74), false);
        Check.due("draw without the t", Check.draw(press), "IllegalStateException");
        Check.due("t alone", press.text(0x74), true);
        Check.due("draw with the t", Check.draw(press), "1");
        Check.due("z before a byte 31", press.text(0x7a1f), false);
        Check.due("draw without the z", Check.draw(press), "1");
    }

    /** "at most 160": what is refused is not taken in part, and the last character counts. */
    private static void moreThanHundredAndSixtyRefused() {
        Press press = Check.press("a\n1\n", "bar x a y count ");
        for (int i = 0; i < 17; i++) {
            Check.due("eight blanks", press.text(Check.eight("        ")), true);
        }
        Check.due("up to 153", press.text(Check.eight(" ")), true);
        Check.due("up to 161", press.text(Check.eight("ticks  9")), false);
        Check.due("up to 160", press.text(Check.eight("ticks 9")), true);
        Check.due("up to 161", press.text(Check.eight("9")), false);
        Check.due("draw", Check.draw(press), "1");
        Check.due("ticks of 0 .. 1", press.figure(5), 6);
    }

    /** A full text takes nothing, refuses one, and takes again after a wipe. */
    private static void fullText() {
        Press press = Check.press("", " ".repeat(160));
        Check.due("nothing more", press.text(0), true);
        Check.due("one more", press.text(' '), false);
        Check.due("a wrong one more", press.text(1), false);
        Check.due("the data are not full", press.data(Check.eight("aaaaaaaa")), true);
        press.wipe(true);
        Check.due("one more after a wipe of the data", press.text(' '), false);
        press.wipe(false);
        Check.feedText(press, "b".repeat(160));
        Check.due("one more than 160 again", press.text('b'), false);
        Press eights = new Press();
        for (int i = 0; i < 20; i++) {
            Check.due("text of eight", eights.text(Check.eight("aaaaaaaa")), true);
        }
        Check.due("text of eight more", eights.text(Check.eight("aaaaaaaa")), false);
    }
}
