/** Promise 10: the values of groups. How they come about is in CarryingOutTermsTest. */
public final class ValueTest {
    public static void main(String[] args) {
        valuesInOrder();
        ofAllSegments();
        cutTowardZero();
        noSuchGroup();
        nothingDrawn();
        ofWhatWasDrawn();
        Check.end();
    }

    /** "Group i's value": i is its place as drawn. */
    private static void valuesInOrder() {
        Check.valuesAre("a,v\nb,2\na,-1\nc,3\n", "bar x a y sum v", "2000 -1000 3000");
        Check.valuesAre("a,v\nb,2\na,-1\nc,3\n", "bar x a y sum v order up", "-1000 2000 3000");
        Check.valuesAre("a,v\n3,2\n1,-1\n2,3\n", "bar x a y sum v", "-1000 3000 2000");
        Check.valuesAre("a\n1\n2\n3\n4\n5\n6\n7\n8\n", "bar x a y sum a", "1000 2000 3000 4000 5000 6000 7000 8000");
    }

    /** "(of all its segments)": also of both signs. */
    private static void ofAllSegments() {
        String data = "a,v,k\n1,5,p\n1,-3,q\n1,0.5,r\n2,-1,p\n2,-2,q\n";
        Check.valuesAre(data, "bar x a y sum v stack k", "2500 -3000");
        Check.valuesAre(data, "bar x a y count stack k", "3000 2000");
        Check.valuesAre("a,v,k\n1,5,p\n1,-5,q\n", "bar x a y sum v stack k", "0");
    }

    /** "in thousandths, cut toward 0": for values above and below 0. */
    private static void cutTowardZero() {
        Check.valuesAre("a,v\n1,1\n1,0\n1,0\n", "point x a y mean v", "333");
        Check.valuesAre("a,v\n1,-1\n1,0\n1,0\n", "point x a y mean v", "-333");
        Check.valuesAre("a,v\n1,2\n1,0\n1,0\n", "point x a y mean v", "666");
        Check.valuesAre("a,v\n1,-2\n1,0\n1,0\n", "point x a y mean v", "-666");
        Check.valuesAre("a,v\n1,0.001\n1,0\n", "point x a y mean v", "0");
        Check.valuesAre("a,v\n1,-0.001\n1,0\n", "point x a y mean v", "0");
        Check.valuesAre("a,v\n1,-0.001\n1,-0.002\n", "point x a y mean v", "-1");
        for (int rows = 1; rows <= 12; rows++) {
            String data = "a,v\n" + "1,0\n".repeat(rows - 1) + "1,1\n";
            Check.valuesAre(data, "bar x a y mean v", Integer.toString(1000 / rows));
            Check.valuesAre(data.replace("1,1\n", "1,-1\n"), "bar x a y mean v", Integer.toString(-(1000 / rows)));
        }
        Check.valuesAre("a,v\n" + "1,999999.999\n".repeat(11) + "1,999999.998\n", "bar x a y mean v", "999999998");
    }

    /** "0 when there is none" */
    private static void noSuchGroup() {
        Press press = Check.press("a,v\n1,5\n2,6\n", "bar x a y sum v");
        Check.due("draw", Check.draw(press), "2");
        int[] outside = {-1, 2, 3, 7, 8, 12, 256, 65536, Integer.MAX_VALUE, Integer.MIN_VALUE, Integer.MIN_VALUE + 1};
        for (int i : outside) {
            Check.due("value(" + i + ")", press.value(i), 0);
        }
        Press eight = Check.drawnPress(96, 64, "a\n1\n2\n3\n4\n5\n6\n7\n8\n", "bar x a y sum a");
        Check.due("value(7) of eight", eight.value(7), 8000);
        Check.due("value(8) of eight", eight.value(8), 0);
        Check.refill(eight, "a,v\n1,7\n", "bar x a y sum v");
        Check.due("draw of one group", Check.draw(eight), "1");
        Check.due("value(0)", eight.value(0), 7000);
        Check.due("value(1), of the chart before", eight.value(1), 0);
    }

    /** "or nothing was drawn" */
    private static void nothingDrawn() {
        Press press = Check.press("a,v\n1,5\n2,6\n", "bar x a y sum v");
        Check.due("value(0) before anything is drawn", press.value(0), 0);
        Check.due("draw", Check.draw(press), "2");
        Check.due("value(0)", press.value(0), 5000);
        Check.due("canvas", press.canvas(48, 32), true);
        Check.due("value(0) when it is gone", press.value(0), 0);
    }

    /** It is of what was drawn, not of the data as they are now. */
    private static void ofWhatWasDrawn() {
        Press press = Check.press("a,v\n1,5\n2,6\n", "bar x a y sum v");
        Check.due("draw", Check.draw(press), "2");
        Check.refill(press, "a,v\n1,7\n", "bar x a y sum v");
        Check.due("value(0), not drawn yet", press.value(0), 5000);
        Check.due("value(1), not drawn yet", press.value(1), 6000);
    }
}
