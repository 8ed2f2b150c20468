/** What all tests share: feeding a press, and telling answers that are not as due. */
final class Check {
    private static int wrong = 0;

    private Check() {
    }

    static void due(String what, long got, long want) {
        if (got != want) {
            tell(what, Long.toString(got), Long.toString(want));
        }
    }

    static void due(String what, boolean got, boolean want) {
        if (got != want) {
            tell(what, Boolean.toString(got), Boolean.toString(want));
        }
    }

    static void due(String what, String got, String want) {
        if (!got.equals(want)) {
            tell(what, "\n" + got, "\n" + want);
        }
    }

    private static void tell(String what, String got, String want) {
        wrong++;
        System.out.println(what + " answered " + got + ", due is " + want);
    }

    static void end() {
        if (wrong != 0) {
            System.out.println(wrong + " answers are not as due");
            System.exit(1);
        }
    }

    /** Up to eight characters as the bytes of a long, the first one in the highest byte that is used. */
    static long eight(String characters) {
        long packed = 0;
        for (int i = 0; i < characters.length(); i++) {
            packed = packed << 8 | characters.charAt(i);
        }
        return packed;
    }

    static void feedData(ChartPress press, String data) {
        for (int i = 0; i < data.length(); i += 8) {
            due("data", press.data(eight(data.substring(i, Math.min(i + 8, data.length())))), true);
        }
    }

    static void feedText(ChartPress press, String text) {
        for (int i = 0; i < text.length(); i += 8) {
            due("text", press.text(eight(text.substring(i, Math.min(i + 8, text.length())))), true);
        }
    }

    static void refill(ChartPress press, String data, String text) {
        press.wipe(true);
        press.wipe(false);
        feedData(press, data);
        feedText(press, text);
    }

    static ChartPress press(String data, String text) {
        ChartPress press = new ChartPress();
        refill(press, data, text);
        return press;
    }

    static ChartPress press(int w, int h, String data, String text) {
        ChartPress press = press(data, text);
        due("canvas", press.canvas(w, h), true);
        return press;
    }

    /** How many groups, or what was thrown. */
    static String draw(ChartPress press) {
        try {
            return Integer.toString(press.draw());
        } catch (RuntimeException e) {
            return e.getClass().getSimpleName();
        }
    }

    static void drawn(String data, String text, String want) {
        due("draw of <" + data + "> by <" + text + ">", draw(press(data, text)), want);
    }

    /** What was drawn, a line for each row and a point for each 0. */
    static String picture(ChartPress press, int w, int h) {
        StringBuilder rows = new StringBuilder();
        for (int y = 0; y < h; y++) {
            for (int x = 0; x < w; x++) {
                int pixel = press.pixel(x, y);
                rows.append(pixel == 0 ? "." : Integer.toString(pixel));
            }
            rows.append('\n');
        }
        return rows.toString();
    }

    static String figures(ChartPress press) {
        StringBuilder all = new StringBuilder();
        for (int what = 0; what < 7; what++) {
            all.append(what == 0 ? "" : " ").append(press.figure(what));
        }
        return all.toString();
    }

    static String values(ChartPress press) {
        StringBuilder all = new StringBuilder();
        for (int i = 0; i < press.figure(0); i++) {
            all.append(i == 0 ? "" : " ").append(press.value(i));
        }
        return all.toString();
    }

    /** The types of the columns 0 .. 4. */
    static String columns(String data) {
        ChartPress press = press(data, "");
        StringBuilder all = new StringBuilder();
        for (int c = 0; c < 5; c++) {
            all.append(press.column(c));
        }
        return all.toString();
    }
}
