/** Promise 8: the figures of what was drawn: groups, LEFT, FIRST, LAST, step, ticks, k. */
public final class FigureTest {
    public static void main(String[] args) {
        lowAndHigh();
        exactEnds();
        steps();
        largeNumbers();
        strides();
        placesOutside();
        Check.end();
    }

    private static void figures(String data, String text, String want) {
        ChartPress press = Check.press(96, 64, data, text);
        Check.draw(press);
        Check.due("figures of <" + data + "> by <" + text + ">", Check.figures(press), want);
    }

    private static void lowAndHigh() {
        String rising = "a,v\n1,30\n2,40\n";
        figures(rising, "bar x a y sum v", "2 10 0 40000 10000 5 1");
        figures(rising, "line x a y sum v", "2 10 30000 40000 5000 3 1");
        figures(rising, "point x a y sum v", "2 10 30000 40000 5000 3 1");
        figures("a,v\n1,-30\n2,-40\n", "bar x a y sum v", "2 14 -40000 0 10000 5 1");
        figures("a,v\n1,5\n", "line x a y sum v", "1 14 4000 6000 500 5 1");
        figures("a,v\n1,0\n", "bar x a y sum v", "1 18 -1000 1000 500 5 1");
        String bothSigns = "a,v,k\n1,5,p\n1,-3,q\n";
        figures(bothSigns, "bar x a y sum v stack k", "1 10 -5000 5000 5000 3 1");
        figures(bothSigns, "bar x a y sum v stack k ticks 9", "1 10 -3000 5000 1000 9 1");
        figures(bothSigns, "bar x a y sum v", "1 14 0 2000 500 5 1");
        // Segments of different groups are not added up.
        figures("a,v,k\n1,3,p\n1,4,q\n2,5,p\n", "bar x a y sum v stack k", "2 6 0 8000 2000 5 1");
    }

    private static void exactEnds() {
        figures("a,v\n1,1\n1,0\n1,0\n2,1\n2,1\n2,0\n", "line x a y mean v", "2 14 300 700 100 5 1");
        figures("a,v\n1,1\n1,0\n1,0\n2,0.333\n", "point x a y mean v", "2 22 333 334 1 2 1");
        figures("a,v\n1,-1\n1,0\n1,0\n2,-0.333\n", "point x a y mean v", "2 26 -334 -333 1 2 1");
        figures("a,v\n1,-0.001\n2,0\n", "point x a y sum v", "2 26 -1 0 1 2 1");
        figures("a,v\n1,0.001\n2,0.006\n", "point x a y sum v", "2 22 0 6 2 4 1");
    }

    private static void steps() {
        String hundred = "a,v\n1,100\n";
        for (int ticks = 3; ticks <= 9; ticks++) {
            String want = ticks < 6 ? "1 14 0 100000 50000 3 1" : "1 14 0 100000 20000 6 1";
            figures(hundred, "bar x a y sum v ticks " + ticks, want);
        }
        figures(hundred, "bar x a y sum v", "1 14 0 100000 50000 3 1");
        figures("a,v\n1,101\n", "bar x a y sum v", "1 14 0 150000 50000 4 1");
        figures("a,v\n1,7\n", "bar x a y sum v ticks 3", "1 10 0 10000 5000 3 1");
        figures("a,v\n1,5\n", "bar x a y sum v ticks 3", "1 6 0 5000 5000 2 1");
        figures("a,v\n1,0.05\n", "bar x a y sum v", "1 18 0 60 20 4 1");
    }

    private static void largeNumbers() {
        String most = "a,v\n" + "1,999999.999\n".repeat(12);
        figures(most, "bar x a y sum v", "1 34 0 15000000000 5000000000 4 1");
        figures(most, "bar x a y sum v ticks 3", "1 34 0 20000000000 10000000000 3 1");
        figures("a,v\n" + "1,-999999.999\n".repeat(12), "bar x a y sum v", "1 38 -15000000000 0 5000000000 4 1");
        figures("a,v\n1,-1\n2,999999\n", "bar x a y sum v ticks 3", "2 34 -1000000000 1000000000 1000000000 3 1");
        // The widest label that there can be: twelve characters.
        String wide = "a,v\n" + "1,-999999.999\n".repeat(6) + "2,-999999.998\n" + "2,-999999.999\n".repeat(5);
        figures(wide, "point x a y sum v", "2 50 -5999999994 -5999999993 1 2 1");
    }

    private static void stride(int w, String data, String text, long want) {
        ChartPress press = Check.press(w, 18, data, text);
        Check.draw(press);
        Check.due("k of <" + data + "> on " + w, press.figure(6), want);
    }

    private static String eightRows(String behind) {
        StringBuilder data = new StringBuilder("a\n");
        for (char c = 'a'; c <= 'h'; c++) {
            data.append(c).append(behind).append('\n');
        }
        return data.toString();
    }

    private static void strides() {
        String text = "bar x a y count";
        stride(96, "a\nabcdefghijkl\n", text, 1);
        stride(96, eightRows(""), text, 1);
        stride(96, eightRows("x"), text, 1);
        stride(96, eightRows("xx"), text, 2);
        stride(96, eightRows("bcdefghijkl"), text, 6);
        stride(20, "a\nabcde\nfghij\n", text, 2);
        // Two labels of 7 columns: the second begins 2 behind the first one's last column, or 1.
        stride(31, "a\nab\ncd\n", text, 1);
        stride(29, "a\nab\ncd\n", text, 2);
    }

    private static void placesOutside() {
        ChartPress press = Check.press("a,v\n1,5\n2,6\n", "bar x a y sum v");
        Check.due("figures before anything is drawn", Check.figures(press), "-1 -1 -1 -1 -1 -1 -1");
        Check.due("draw", Check.draw(press), "2");
        int[] outside = {-1, 7, 8, Integer.MAX_VALUE, Integer.MIN_VALUE};
        for (int what : outside) {
            Check.due("figure(" + what + ")", press.figure(what), -1);
        }
        Check.refill(press, "a,v\n1,-7\n", "bar x a y sum v");
        Check.due("figure(0), not drawn yet", press.figure(0), 2);
        Check.due("draw", Check.draw(press), "1");
        Check.due("figures", Check.figures(press), "1 10 -8000 0 2000 5 1");
    }
}
