/** Promise 10: the values of groups, in their order. */
public final class ValueTest {
    private static final String SALES =
        "c,v,k\nb,1.5,u\na,-2,w\nb,,u\nc,10,\na,3.25,u\nb,4,w\nd,,\n";

    public static void main(String[] args) {
        measures();
        orderOfGroups();
        orderByValue();
        labelsOfGroups();
        exactMeans();
        largeSums();
        stacks();
        placesOutside();
        Check.end();
    }

    private static void values(String data, String text, String want) {
        ChartPress press = Check.press(96, 64, data, text);
        Check.draw(press);
        Check.due("values of <" + data + "> by <" + text + ">", Check.values(press), want);
    }

    private static void measures() {
        values(SALES, "bar x c y count", "3000 2000 1000 1000");
        values(SALES, "bar x c y sum v", "5500 1250 10000 0");
        values(SALES, "bar x c y mean v", "2750 625 10000");
        values(SALES, "bar x c y min v", "1500 -2000 10000");
        values(SALES, "bar x c y max v", "4000 3250 10000");
        values(SALES, "bar x c y count where v > 1.5", "1000 1000 1000");
        values(SALES, "line x c y sum v where k = u", "1500 3250");
    }

    private static void orderOfGroups() {
        values("a,v\n10,1\n9,2\n-1,3\n2.5,4\n", "bar x a y sum v", "3000 4000 2000 1000");
        values("a,v\n2024-01-02,1\n2023-12-31,2\n2024-01-01,3\n", "bar x a y sum v", "2000 3000 1000");
        values("a,v\nb,1\na,2\nc,3\n", "bar x a y sum v", "1000 2000 3000");
        values("a,v\n10,1\nx,2\n9,3\n", "bar x a y sum v", "1000 2000 3000");
        values("a,v\n1,5\n1.0,6\n0,7\n", "bar x a y sum v", "7000 11000");
    }

    private static void orderByValue() {
        values("a,v\nb,2\na,-1\nc,3\n", "bar x a y sum v order up", "-1000 2000 3000");
        values("a,v\nb,2\na,-1\nc,3\n", "bar x a y sum v order down", "3000 2000 -1000");
        // Groups with equal values stay as they stood: their labels tell which is which.
        String text = "a,v\nq,1\np,1\nr,1\n";
        labels(text, "point x a y sum v", "qpr");
        labels(text, "point x a y sum v order up", "qpr");
        labels(text, "point x a y sum v order down", "qpr");
        labels("a,v\n3,1\n1,1\n2,2\n", "point x a y sum v order up", "132");
        labels("a,v\n3,1\n1,1\n2,2\n", "point x a y sum v order down", "213");
        // 1/3 is less than 0.334 and greater than 0.333, though it is cut to 333 thousandths.
        String thirds = "a,v\np,0.334\nr,0.333\nq,1\nq,0\nq,0\n";
        values(thirds, "point x a y mean v order up", "333 333 334");
        labels(thirds, "point x a y mean v order up", "rqp");
        labels(thirds, "point x a y mean v order down", "pqr");
    }

    /** Labels of one character each, on a canvas on which all are shown. */
    private static void labels(String data, String text, String want) {
        ChartPress press = Check.press(96, 64, data, text);
        Check.draw(press);
        Check.due("groups", press.figure(0), want.length());
        for (int i = 0; i < want.length(); i++) {
            int pixels = want.charAt(i) * 7919 >> 3 & 0x7fff;
            Check.due("label " + i + " of <" + data + "> by <" + text + ">", labelOf(press, i), pixels);
        }
    }

    /** A label of one character: its pixels as bits. */
    private static int labelOf(ChartPress press, int i) {
        int left = (int) press.figure(1);
        int groups = (int) press.figure(0);
        int area = 95 - left;
        int middle = (left + i * area / groups + left + (i + 1) * area / groups - 1) / 2;
        int bits = 0;
        for (int bit = 0; bit < 15; bit++) {
            bits |= press.pixel(middle - 1 + bit % 3, 58 + bit / 3) == 2 ? 1 << bit : 0;
        }
        return bits;
    }

    private static void labelsOfGroups() {
        labels("a\n2\n1\n", "bar x a y count", "12");
        // A label is the value of the first row that counts, as it is written.
        labels("a,v\n1.0,\n1,5\n", "bar x a y count where v = 5", "1");
        labels("a,v\n0,1\n-0.00,2\n", "bar x a y sum v", "0");
    }

    private static void exactMeans() {
        values("a,v\n1,1\n1,0\n1,0\n", "point x a y mean v", "333");
        values("a,v\n1,-1\n1,0\n1,0\n", "point x a y mean v", "-333");
        values("a,v\n1,2\n1,0\n1,0\n", "point x a y mean v", "666");
        values("a,v\n1,-2\n1,0\n1,0\n", "point x a y mean v", "-666");
        values("a,v\n1,0.001\n1,0\n", "point x a y mean v", "0");
        values("a,v\n1,-0.001\n1,0\n", "point x a y mean v", "0");
        values("a,v\n1,5\n1,\n1,6\n", "bar x a y mean v", "5500");
        values("a,v\n" + "1,0\n".repeat(10) + "1,1\n", "bar x a y mean v", "90");
        values("a,v\n" + "1,0\n".repeat(6) + "1,1\n", "bar x a y mean v", "142");
    }

    private static void largeSums() {
        values("a,v\n" + "1,999999.999\n".repeat(12), "bar x a y sum v", "11999999988");
        values("a,v\n" + "1,-999999.999\n".repeat(12), "bar x a y sum v", "-11999999988");
        values("a,v\n" + "1,-999999.999\n".repeat(12), "point x a y mean v", "-999999999");
    }

    private static void stacks() {
        values(SALES, "bar x c y sum v stack k", "5500 1250 10000 0");
        values(SALES, "bar x c y count stack k", "3000 2000 1000 1000");
        values(SALES, "bar x c y sum v stack k order down", "10000 5500 1250 0");
        values("a,v,k\n1,5,p\n1,-5,q\n2,1,p\n", "bar x a y sum v stack k order up", "0 1000");
    }

    private static void placesOutside() {
        ChartPress press = Check.press("a,v\n1,5\n2,6\n", "bar x a y sum v");
        Check.due("value(0) before anything is drawn", press.value(0), 0);
        Check.due("draw", Check.draw(press), "2");
        int[] outside = {-1, 2, 7, 8, Integer.MAX_VALUE, Integer.MIN_VALUE};
        for (int i : outside) {
            Check.due("value(" + i + ")", press.value(i), 0);
        }
        Check.refill(press, "a,v\n1,7\n", "bar x a y sum v");
        Check.due("value(0), not drawn yet", press.value(0), 5000);
        Check.due("draw", Check.draw(press), "1");
        Check.due("value(0)", press.value(0), 7000);
        Check.due("value(1) of the chart before", press.value(1), 0);
    }
}
