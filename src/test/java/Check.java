/** What all tests share: feeding a press, and telling answers that are not as due. */
final class Check {
    static final String BAD_DATA = "IllegalArgumentException";
    static final String TOO_MUCH = "UnsupportedOperationException";
    static final String BAD_TEXT = "IllegalStateException";
    static final String BAD_COUNT = "ArithmeticException";
    static final String NO_ROOM = "IndexOutOfBoundsException";

    private static int wrong = 0;

    private Check() {
    }

    static void due(String what, long got, long want) {
        if (got != want) {
            tell(what, Long.toString(got), Long.toString(want));
        }
    }

    static void due(String what, boolean got, boolean want) {
        if (got != want) {
            tell(what, Boolean.toString(got), Boolean.toString(want));
        }
    }

    static void due(String what, String got, String want) {
        if (!got.equals(want)) {
            tell(what, "\n" + got, "\n" + want);
        }
    }

    private static void tell(String what, String got, String want) {
        wrong++;
        System.out.println(what + " answered " + got + ", due is " + want);
    }

    static void end() {
        if (wrong != 0) {
            System.out.println(wrong + " answers are not as due");
            System.exit(1);
        }
    }

    /** Up to eight characters as the bytes of a long, the first one in the highest byte that is used. */
    static long eight(String characters) {
        long packed = 0;
        for (int i = 0; i < characters.length(); i++) {
            packed = packed << 8 | characters.charAt(i);
        }
        return packed;
    }

    static void feedData(Press press, String data) {
        for (int i = 0; i < data.length(); i += 8) {
            due("data", press.data(eight(data.substring(i, Math.min(i + 8, data.length())))), true);
        }
    }

    static void feedText(Press press, String text) {
        for (int i = 0; i < text.length(); i += 8) {
            due("text", press.text(eight(text.substring(i, Math.min(i + 8, text.length())))), true);
        }
    }

    static void refill(Press press, String data, String text) {
        press.wipe(true);
        press.wipe(false);
        feedData(press, data);
        feedText(press, text);
    }

    static Press press(String data, String text) {
        Press press = new Press();
        refill(press, data, text);
        return press;
    }

    static Press press(int w, int h, String data, String text) {
        Press press = press(data, text);
        due("canvas", press.canvas(w, h), true);
        return press;
    }

    /** How many groups, or what was thrown. */
    static String draw(Press press) {
        try {
            return Integer.toString(press.draw());
        } catch (RuntimeException e) {
            return e.getClass().getSimpleName();
        }
    }

    static void drawn(String data, String text, String want) {
        due("draw of <" + data + "> by <" + text + ">", draw(press(data, text)), want);
    }

    static void drawnOn(int w, int h, String data, String text, String want) {
        due("draw of <" + data + "> by <" + text + "> on " + w + " by " + h, draw(press(w, h, data, text)), want);
    }

    /** A press that has drawn; that it throws nothing is looked at, too. */
    static Press drawnPress(int w, int h, String data, String text) {
        Press press = press(w, h, data, text);
        String answer = draw(press);
        due("draw of <" + data + "> by <" + text + "> answers a number and not " + answer, answer.length() == 1, true);
        return press;
    }

    static void figuresAre(String data, String text, String want) {
        due("figures of <" + data + "> by <" + text + ">", figures(drawnPress(96, 64, data, text)), want);
    }

    static void valuesAre(String data, String text, String want) {
        due("values of <" + data + "> by <" + text + ">", values(drawnPress(96, 64, data, text)), want);
    }

    static void columnsAre(String data, String want) {
        due("columns of <" + data + ">", columns(data), want);
    }

    static void pictureIs(int w, int h, String data, String text, String want) {
        due("picture of <" + data + "> by <" + text + ">", picture(drawnPress(w, h, data, text), w, h), want);
    }

    /** Labels of one character each, on a canvas on which all are shown. */
    static void labelsAre(String data, String text, String want) {
        Press press = drawnPress(96, 64, data, text);
        due("groups of <" + data + "> by <" + text + ">", press.figure(0), want.length());
        for (int i = 0; i < want.length(); i++) {
            int left = (int) press.figure(1);
            int area = 95 - left;
            int middle = (left + i * area / want.length() + left + (i + 1) * area / want.length() - 1) / 2;
            written("label " + i + " of <" + data + "> by <" + text + ">", press, middle - 1, 58, want.substring(i, i + 1));
        }
    }

    /** The text is written with its upper left pixel at (x, y), and nothing else is in its pixels. */
    static void written(String what, Press press, int x, int y, String text) {
        StringBuilder got = new StringBuilder();
        StringBuilder want = new StringBuilder();
        for (int i = 0; i < text.length(); i++) {
            got.append(glyphAt(press, x + 4 * i, y)).append(' ');
            want.append(text.charAt(i) * 7919 >> 3 & 0x7fff).append(' ');
        }
        due(what + ", <" + text + "> at " + x + ", " + y, got.toString(), want.toString());
    }

    /** The 3 by 5 pixels there as bits; a pixel that is neither 0 nor 2 makes it -1. */
    private static int glyphAt(Press press, int x, int y) {
        int bits = 0;
        boolean pure = true;
        for (int bit = 0; bit < 15; bit++) {
            int pixel = press.pixel(x + bit % 3, y + bit / 3);
            pure = pure && (pixel == 0 || pixel == 2);
            bits |= pixel == 2 ? 1 << bit : 0;
        }
        return pure ? bits : -1;
    }

    /** Row y of what was drawn, from column x to column toX, a point for each 0. */
    static String row(Press press, int y, int x, int toX) {
        StringBuilder pixels = new StringBuilder();
        for (int at = x; at <= toX; at++) {
            pixels.append(shown(press.pixel(at, y)));
        }
        return pixels.toString();
    }

    /** Column x of what was drawn, from row y downward to row toY. */
    static String downward(Press press, int x, int y, int toY) {
        StringBuilder pixels = new StringBuilder();
        for (int at = y; at <= toY; at++) {
            pixels.append(shown(press.pixel(x, at)));
        }
        return pixels.toString();
    }

    private static String shown(int pixel) {
        return pixel == 0 ? "." : Integer.toString(pixel);
    }

    /** What was drawn, a line for each row and a point for each 0. */
    static String picture(Press press, int w, int h) {
        StringBuilder rows = new StringBuilder();
        for (int y = 0; y < h; y++) {
            rows.append(row(press, y, 0, w - 1)).append('\n');
        }
        return rows.toString();
    }

    static String figures(Press press) {
        StringBuilder all = new StringBuilder();
        for (int what = 0; what < 7; what++) {
            all.append(what == 0 ? "" : " ").append(press.figure(what));
        }
        return all.toString();
    }

    static String values(Press press) {
        StringBuilder all = new StringBuilder();
        for (int i = 0; i < press.figure(0); i++) {
            all.append(i == 0 ? "" : " ").append(press.value(i));
        }
        return all.toString();
    }

    /** The types of the columns 0 .. 4. */
    static String columns(String data) {
        Press press = press(data, "");
        StringBuilder all = new StringBuilder();
        for (int c = 0; c < 5; c++) {
            all.append(press.column(c));
        }
        return all.toString();
    }
}
