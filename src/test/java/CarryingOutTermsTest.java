/** The sentences of "CARRYING OUT", one method for each that names an edge. */
public final class CarryingOutTermsTest {
    private static final String TABLE = "n,v,d,t\n1,10,2024-01-01,a\n2,20,2024-01-02,b\n3,30,2024-01-03,a\n";
    private static final String SALES = "c,v,k\nb,1.5,u\na,-2,w\nb,,u\nc,10,\na,3.25,u\nb,4,w\nd,,\n";

    public static void main(String[] args) {
        missingX();
        missingWhere();
        numbersByValue();
        datesByDay();
        textsAsWritten();
        equalX();
        labelOfTheFirstRow();
        groupsOfTexts();
        groupsByRisingX();
        counts();
        sums();
        meansAndEnds();
        groupsLeftOut();
        orderByValue();
        equalValuesAsTheyStood();
        orderByExactValues();
        largeSums();
        partsAsWritten();
        missingIsAPart();
        orderOfParts();
        partsThatAGroupHas();
        valuesOfSegments();
        withoutStack();
        atMostEightGroups();
        atLeastOneGroup();
        Check.end();
    }

    private static void groups(String text, String want) {
        Check.drawn(TABLE, "bar x n y count " + text, want);
    }

    /** "A row COUNTS if the value of the x column is not missing" */
    private static void missingX() {
        Check.drawn("a,b\n,1\n2,\n3,1\n", "bar x a y count", "2");
        Check.drawn("a,b\n\"\",1\nx,\n", "bar x a y count", "1");
        Check.drawn("a,b\n,2024-01-01\n1,2024-01-01\n", "bar x a y count where b = 2024-01-01", "1");
        Check.valuesAre("a,v\n,100\nx,1\n,100\nx,2\n", "bar x a y sum v", "3000");
    }

    /** "and for each where: its value there is not missing" */
    private static void missingWhere() {
        Check.drawn("a,b\n1,\n2,5\n3,7\n", "bar x a y count where b < 9", "2");
        Check.drawn("a,b\n1,\n2,5\n3,7\n", "bar x a y count where b > -9", "2");
        Check.drawn("a,b\n1,\n2,0\n", "bar x a y count where b = 0", "1");
        Check.drawn("a,b\n1,\n2,2024-01-01\n", "bar x a y count where b < 2025-01-01", "1");
        Check.drawn("a,b\n1,\n2,x\n3,y\n", "bar x a y count where b = x", "1");
        Check.drawn("a,b,c\n1,1,\n2,,1\n3,1,1\n", "bar x a y count where b = 1 where c = 1", "1");
        Check.drawn("a,b\n1,\n2,\n", "bar x a y count where b < 9", Check.BAD_COUNT);
    }

    /** "equal to, less, or greater than the word's (NUMBERS by value" */
    private static void numbersByValue() {
        groups("where v = 20.0", "1");
        groups("where v = 020", "1");
        groups("where v = 20.001", Check.BAD_COUNT);
        groups("where v < 20", "1");
        groups("where v < 20.001", "2");
        groups("where v < 10", Check.BAD_COUNT);
        groups("where v > 20", "1");
        groups("where v > 19.999", "2");
        groups("where v > 030.000", Check.BAD_COUNT);
        groups("where v < 9", Check.BAD_COUNT);
        groups("where v > 9", "3");
        Check.drawn("a\n-2\n-10\n-0\n", "bar x a y count where a < -2", "1");
        Check.drawn("a\n-2\n-10\n-0\n", "bar x a y count where a > -2.5", "2");
        Check.drawn("a\n-2\n-10\n-0\n", "bar x a y count where a = 0.0", "1");
        Check.drawn("a\n0\n1\n", "bar x a y count where a = -0", "1");
    }

    /** "DATES by day" */
    private static void datesByDay() {
        groups("where d < 2024-01-01", Check.BAD_COUNT);
        groups("where d < 2024-01-02", "1");
        groups("where d = 2024-01-03", "1");
        groups("where d = 2024-01-04", Check.BAD_COUNT);
        groups("where d > 2024-01-01", "2");
        groups("where d > 2024-01-03", Check.BAD_COUNT);
        String days = "a\n2023-12-31\n2024-01-01\n2024-02-29\n2024-03-01\n";
        Check.drawn(days, "bar x a y count where a > 2023-12-31", "3");
        Check.drawn(days, "bar x a y count where a < 2024-03-01", "3");
        Check.drawn(days, "bar x a y count where a > 2024-01-31", "2");
        Check.drawn(days, "bar x a y count where a < 2024-01-31", "2");
        Check.drawn(days, "bar x a y count where a > 2023-11-30", "4");
        // Each of the eight digits makes another day, and a later one.
        String[] later = {
            "2012-01-01", "1112-01-01", "1022-01-01", "1013-01-01", "1012-11-01", "1012-02-01", "1012-01-11", "1012-01-02"};
        for (String day : later) {
            String data = "a,v\n" + day + ",1\n1012-01-01,2\n";
            Check.valuesAre(data, "bar x a y sum v", "2000 1000");
            Check.valuesAre(data, "bar x a y sum v where a > 1012-01-01", "1000");
            Check.valuesAre(data, "bar x a y sum v where a < " + day, "2000");
            Check.valuesAre(data, "bar x a y sum v where a = " + day, "1000");
        }
    }

    /** "TEXTS as they are written)": the same number in a column of texts is not equal. */
    private static void textsAsWritten() {
        groups("where t = a", "2");
        groups("where t = A", Check.BAD_COUNT);
        groups("where t = aa", Check.BAD_COUNT);
        Check.drawn("a,b\n1,1.0\n2,x\n3,1\n", "bar x a y count where b = 1", "1");
        Check.drawn("a,b\n1,ab\n2,abc\n3,b\n", "bar x a y count where b = ab", "1");
        Check.drawn("a,b\n1,\"q\"\"\"\n2,q\n", "bar x a y count where b = q\"", "1");
    }

    /** "Rows that count with equal x (by type, as just said) are a GROUP" */
    private static void equalX() {
        Check.drawn("a\n1\n1.0\n01\n1.000\n", "bar x a y count", "1");
        Check.drawn("a\n0\n-0\n-0.0\n000.000\n", "bar x a y count", "1");
        Check.drawn("a\n1\n1.001\n-1\n", "bar x a y count", "3");
        Check.drawn("a\n1\n1.0\nx\n", "bar x a y count", "3");
        Check.drawn("a\nx\nX\nx\n", "bar x a y count", "2");
        Check.drawn("a\nx\nx \n\"x\"\n", "bar x a y count", "2");
        Check.drawn("a\n2024-01-01\n2024-01-01\n2024-10-01\n", "bar x a y count", "2");
        Check.drawn("a\n2024-01-11\n2024-11-01\n2011-01-24\n", "bar x a y count", "3");
    }

    /** "its LABEL is the value of its first row": of those that count, as it is written. */
    private static void labelOfTheFirstRow() {
        Check.labelsAre("a,v\n1.0,\n1,5\n", "bar x a y count where v = 5", "1");
        Check.labelsAre("a,v\n0,1\n-0.00,2\n", "bar x a y sum v", "0");
        Press press = Check.drawnPress(96, 64, "a\n-0.00\n0\n", "bar x a y count");
        // Ticks up to 2: LEFT is 14, the area 14 .. 94, its middle 54; five characters are 19 wide.
        Check.written("the label of zeros", press, 54 - 9, 58, "-0.00");
    }

    /** "Groups stand in the order of their first rows if the x column is TEXT" */
    private static void groupsOfTexts() {
        Check.labelsAre("a,v\nb,1\na,2\nb,3\nc,3\na,1\n", "bar x a y count", "bac");
        Check.valuesAre("a,v\n10,1\nx,2\n9,3\n", "bar x a y sum v", "1000 2000 3000");
        // The first row that counts, not the first of all.
        Check.labelsAre("a,v\nb,1\na,2\nb,3\n", "bar x a y count where v > 1", "ab");
    }

    /** "else by rising x" */
    private static void groupsByRisingX() {
        Check.labelsAre("a\n2\n1\n3\n", "bar x a y count", "123");
        Check.valuesAre("a,v\n10,1\n9,2\n-1,3\n2.5,4\n-10,5\n", "bar x a y sum v", "5000 3000 4000 2000 1000");
        Check.valuesAre("a,v\n0.1,1\n0.09,2\n0.101,3\n", "bar x a y sum v", "2000 1000 3000");
        Check.valuesAre("a,v\n2024-01-02,1\n2023-12-31,2\n2024-01-01,3\n", "bar x a y sum v", "2000 3000 1000");
        Check.valuesAre("a,v\n2024-02-01,1\n2024-01-31,2\n0000-12-31,3\n", "bar x a y sum v", "3000 2000 1000");
        Check.valuesAre("a,v\n1,5\n1.0,6\n0,7\n", "bar x a y sum v", "7000 11000");
    }

    /** "count: how many rows": a missing value is no matter. */
    private static void counts() {
        Check.valuesAre(SALES, "bar x c y count", "3000 2000 1000 1000");
        Check.valuesAre(SALES, "bar x c y count where v > 1.5", "1000 1000 1000");
        Check.valuesAre("a" + "\n7".repeat(12), "bar x a y count", "12000");
    }

    /** "sum: of the y values that are not missing (0 if all are)" */
    private static void sums() {
        Check.valuesAre(SALES, "bar x c y sum v", "5500 1250 10000 0");
        Check.valuesAre(SALES, "line x c y sum v where k = u", "1500 3250");
        Check.valuesAre("a,v\n1,\n1,\n2,\n", "bar x a y sum v", "0 0");
        Check.valuesAre("a,v\n1,5\n1,-5\n", "bar x a y sum v", "0");
    }

    /** "mean, min, max of these" */
    private static void meansAndEnds() {
        Check.valuesAre(SALES, "bar x c y mean v", "2750 625 10000");
        Check.valuesAre(SALES, "bar x c y min v", "1500 -2000 10000");
        Check.valuesAre(SALES, "bar x c y max v", "4000 3250 10000");
        // A missing value is not a 0.
        Check.valuesAre("a,v\n1,5\n1,\n1,6\n", "bar x a y mean v", "5500");
        Check.valuesAre("a,v\n1,5\n1,\n1,6\n", "bar x a y min v", "5000");
        Check.valuesAre("a,v\n1,-5\n1,\n1,-6\n", "bar x a y max v", "-5000");
        Check.valuesAre("a,v\n1,-5\n1,-6\n1,-4\n", "bar x a y min v", "-6000");
        Check.valuesAre("a,v\n1,4\n1,6\n1,5\n", "bar x a y max v", "6000");
    }

    /** "(a group without any is left out)": of mean, min and max alone. */
    private static void groupsLeftOut() {
        String data = "a,v\np,1\nq,\nr,2\nq,\n";
        String[] measures = {"mean", "min", "max"};
        for (String measure : measures) {
            Check.labelsAre(data, "bar x a y " + measure + " v", "pr");
            Check.labelsAre(data, "bar x a y " + measure + " v order down", "rp");
            Check.labelsAre("a,v\n1,\n2,5\n3,\n4,3\n", "line x a y " + measure + " v", "24");
        }
        Check.labelsAre(data, "bar x a y sum v", "pqr");
        Check.labelsAre(data, "bar x a y count", "pqr");
        // Its rows count, but the only one with a y value does not.
        Check.labelsAre("a,v,k\np,1,x\np,,y\nq,2,y\n", "bar x a y mean v where k = y", "q");
    }

    /** "order up or down: then the groups are put in order by rising, or falling, value" */
    private static void orderByValue() {
        String data = "a,v\nb,2\na,-1\nc,3\n";
        Check.labelsAre(data, "bar x a y sum v", "bac");
        Check.labelsAre(data, "bar x a y sum v order up", "abc");
        Check.labelsAre(data, "bar x a y sum v order down", "cba");
        Check.valuesAre(data, "bar x a y sum v order up", "-1000 2000 3000");
        Check.valuesAre(data, "bar x a y sum v order down", "3000 2000 -1000");
        Check.labelsAre("a,v\n1,3\n2,1\n3,2\n", "point x a y sum v order up", "231");
        Check.labelsAre("a\nx\n", "bar x a y count order down", "x");
    }

    /** "those with equal ones as they stood": in the order before, by x or by first rows. */
    private static void equalValuesAsTheyStood() {
        String data = "a,v\nq,1\np,1\nr,1\n";
        Check.labelsAre(data, "point x a y sum v order up", "qpr");
        Check.labelsAre(data, "point x a y sum v order down", "qpr");
        Check.labelsAre("a,v\n3,1\n1,1\n2,2\n", "point x a y sum v order up", "132");
        Check.labelsAre("a,v\n3,1\n1,1\n2,2\n", "point x a y sum v order down", "213");
        String eight = "a,v\n8,1\n7,0\n6,1\n5,0\n4,1\n3,0\n2,1\n1,0\n";
        Check.labelsAre(eight, "bar x a y sum v order up", "13572468");
        Check.labelsAre(eight, "bar x a y sum v order down", "24681357");
    }

    /** "All numbers are exact.": a third is between 0.333 and 0.334. */
    private static void orderByExactValues() {
        String thirds = "a,v\np,0.334\nr,0.333\nq,1\nq,0\nq,0\n";
        Check.valuesAre(thirds, "point x a y mean v order up", "333 333 334");
        Check.labelsAre(thirds, "point x a y mean v order up", "rqp");
        Check.labelsAre(thirds, "point x a y mean v order down", "pqr");
        // 1/11 is less than 0.091, which is the nearest thousandth.
        String near = "a,v\np,0.091\nq,1\n" + "q,0\n".repeat(10);
        Check.labelsAre(near, "point x a y mean v order up", "qp");
        String equal = "a,v\nq,0.5\nq,0\np,0.25\n";
        Check.labelsAre(equal, "point x a y mean v order up", "qp");
        Check.labelsAre(equal, "point x a y mean v order down", "qp");
    }

    /** The most that twelve rows can come to. */
    private static void largeSums() {
        Check.valuesAre("a,v\n" + "1,999999.999\n".repeat(12), "bar x a y sum v", "11999999988");
        Check.valuesAre("a,v\n" + "1,-999999.999\n".repeat(12), "bar x a y sum v", "-11999999988");
        Check.valuesAre("a,v\n" + "1,-999999.999\n".repeat(12), "point x a y mean v", "-999999999");
    }

    private static void colours(String data, String text, String want) {
        Press press = Check.drawnPress(96, 64, data, text);
        StringBuilder all = new StringBuilder();
        for (int group = 0; group < press.figure(0); group++) {
            all.append(group == 0 ? "" : " ").append(coloursOf(press, group));
        }
        Check.due("colours of <" + data + "> by <" + text + ">", all.toString(), want);
    }

    /** The colours in a group's band, from below upward, each row of one colour once. */
    private static String coloursOf(Press press, int group) {
        long left = press.figure(1);
        int x = (int) (left + group * (95 - left) / press.figure(0));
        StringBuilder colours = new StringBuilder();
        int before = 0;
        for (int y = 55; y >= 1; y--) {
            int pixel = press.pixel(x, y);
            if (pixel != 0 && pixel != before) {
                colours.append(pixel);
            }
            before = pixel;
        }
        return colours.toString();
    }

    /** "its rows are parted by the value in that column as it is written": also numbers and dates. */
    private static void partsAsWritten() {
        colours("a,k\n1,5\n1,5.0\n1,05\n1,5\n", "bar x a y count stack k", "345");
        colours("a,k\n1,x\n1,X\n1,\"x\"\n", "bar x a y count stack k", "34");
        colours("a,k\n1,2024-01-01\n1,2024-01-01\n2,2024-01-02\n", "bar x a y count stack k", "3 4");
        colours("a,k\n1,x\n1.0,y\n", "bar x a y count stack a", "34");
    }

    /** "(missing is a value, too)" */
    private static void missingIsAPart() {
        colours("a,k\n1,x\n1,\n1,\"\"\n2,\n", "bar x a y count stack k", "34 4");
        colours("a,k\n1,\n1,x\n", "bar x a y count stack k", "34");
        colours("a,k\n1,\n2,\n", "bar x a y count stack k", "3 3");
    }

    /** "the order of the parts is that of the first of all rows that count in which such a value is": for all groups. */
    private static void orderOfParts() {
        colours("a,k\n2,x\n1,y\n1,x\n2,y\n", "bar x a y count stack k", "34 34");
        colours("a,k\n2,z\n1,y\n1,x\n", "bar x a y count stack k", "45 3");
        // Rows that do not count, by x or by where, give no part a place.
        colours("a,k\n,z\n1,y\n1,x\n", "bar x a y count stack k", "34");
        colours("a,k,v\n1,z,0\n1,y,1\n1,x,1\n1,z,1\n", "bar x a y count stack k where v = 1", "345");
        colours("a,k,v\n1,z,0\n1,y,1\n1,x,1\n1,z,1\n", "bar x a y count stack k", "345");
        // The order of groups by value does not change that of the parts.
        colours("a,k\np,x\nq,y\nq,y\n", "bar x a y count stack k order down", "4 3");
    }

    /** "each part that the group has is a segment" */
    private static void partsThatAGroupHas() {
        colours("a,k\n1,p\n2,q\n3,r\n4,s\n5,t\n", "bar x a y count stack k", "3 4 5 6 3");
        colours("a,k\n1,p\n2,q\n3,r\n3,p\n", "bar x a y count stack k", "3 4 35");
    }

    /** "with a value as a group of it alone would have": sums with missing values are 0 and are not drawn. */
    private static void valuesOfSegments() {
        Check.valuesAre(SALES, "bar x c y sum v stack k", "5500 1250 10000 0");
        Check.valuesAre(SALES, "bar x c y count stack k", "3000 2000 1000 1000");
        Check.valuesAre(SALES, "bar x c y sum v stack k order down", "10000 5500 1250 0");
        Check.valuesAre("a,v,k\n1,5,p\n1,-5,q\n2,1,p\n", "bar x a y sum v stack k order up", "0 1000");
        colours("a,v,k\n1,,p\n1,1,q\n1,2,q\n1,-2,r\n", "bar x a y sum v stack k", "54");
        colours("a,v,k\n1,1,p\n1,-1,p\n1,2,q\n", "bar x a y sum v stack k", "4");
        // Rows of one part are added up before the sign is looked at.
        colours("a,v,k\n1,-1,p\n1,3,q\n1,2,p\n", "bar x a y sum v stack k", "34");
        Check.figuresAre("a,v,k\n1,-1,p\n1,3,q\n1,2,p\n", "bar x a y sum v stack k", "1 6 0 4000 1000 5 1");
    }

    /** "Without stack a group is one segment, of series 0." */
    private static void withoutStack() {
        colours("a,k\n1,x\n1,y\n2,z\n", "bar x a y count", "3 3");
        colours("a,v\n1,5\n1,-3\n", "bar x a y sum v", "3");
        Check.figuresAre("a,v\n1,5\n1,-3\n", "bar x a y sum v ticks 3", "1 6 0 2000 1000 3 1");
    }

    private static String rows(int count, String behind) {
        StringBuilder rows = new StringBuilder();
        for (int i = 1; i <= count; i++) {
            rows.append(i).append(behind).append('\n');
        }
        return rows.toString();
    }

    /** "At most 8 groups ... (those that were left out don't count)" */
    private static void atMostEightGroups() {
        for (int groups = 1; groups <= 12; groups++) {
            String want = groups <= 8 ? Integer.toString(groups) : Check.BAD_COUNT;
            Check.drawn("a\n" + rows(groups, ""), "bar x a y count", want);
            Check.drawn("a,b\n" + rows(groups, ",x"), "bar x a y count", want);
        }
        Check.drawn("a,b\n" + rows(8, ",1") + "1,2\n2,2\n3,2\n4,2\n", "bar x a y sum b", "8");
        String[] measures = {"mean", "min", "max"};
        for (String measure : measures) {
            Check.drawn("a,b\n" + rows(8, ",1") + "9,\n", "line x a y " + measure + " b", "8");
            Check.drawn("a,b\n" + rows(8, ",1") + "9,\n10,\n11,\n12,\n", "line x a y " + measure + " b order up", "8");
            Check.drawn("a,b\n" + rows(9, ",1") + "10,\n", "line x a y " + measure + " b", Check.BAD_COUNT);
        }
        Check.drawn("a,b\n" + rows(8, ",1") + "9,\n", "bar x a y sum b", Check.BAD_COUNT);
        Check.drawn("a,b\n" + rows(8, ",1") + "9,\n", "bar x a y count", Check.BAD_COUNT);
        Check.drawn("a,b\n" + rows(8, ",1") + "9,\n", "bar x a y count where b = 1", "8");
    }

    /** "and at least one" */
    private static void atLeastOneGroup() {
        Check.drawn("a", "bar x a y count", Check.BAD_COUNT);
        Check.drawn("a\n", "bar x a y count", Check.BAD_COUNT);
        Check.drawn("a\n\n", "bar x a y count", Check.BAD_COUNT);
        Check.drawn("a\n\n", "bar x a y sum a stack a order up", Check.BAD_COUNT);
        Check.drawn(TABLE, "bar x n y count where n > 3", Check.BAD_COUNT);
        Check.drawn("a,b\n1,\n2,\n", "bar x a y max b", Check.BAD_COUNT);
        Check.drawn("a,b\n1,\n2,\n", "line x a y mean b order down", Check.BAD_COUNT);
        Check.drawn("a,b\n1,\n2,\n", "bar x a y sum b", "2");
    }
}
