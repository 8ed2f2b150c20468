/** Promise 6: what draw answers, what it throws, and which comes first. */
public final class DrawTest {
    private static final String DATA = "IllegalArgumentException";
    private static final String LIMIT = "UnsupportedOperationException";
    private static final String WORDS = "IllegalStateException";
    private static final String GROUPS = "ArithmeticException";
    private static final String ROOM = "IndexOutOfBoundsException";
    private static final String TABLE = "n,v,d,t\n1,10,2024-01-01,a\n2,20,2024-01-02,b\n3,30,2024-01-03,a\n";

    public static void main(String[] args) {
        wrongData();
        tooMuchData();
        goodTexts();
        wrongTexts();
        namesOfColumns();
        rowsThatCount();
        equalValues();
        howManyGroups();
        howMuchRoom();
        firstOfThese();
        whatWasDrawnStays();
        Check.end();
    }

    private static void wrongData() {
        Check.drawn("a,b\n1\n", "bar x a y count", DATA);
        Check.drawn("a\n1,2\n", "bar x a y count", DATA);
        Check.drawn("a\n1\"\n", "bar x a y count", DATA);
        Check.drawn("a\n\"1", "bar x a y count", DATA);
        Check.drawn("a\n\"1\"x\n", "bar x a y count", DATA);
        Check.drawn("a\r1\n", "bar x a y count", DATA);
        Check.drawn("a\n1\r", "bar x a y count", DATA);
    }

    private static void tooMuchData() {
        Check.drawn("a,b,c,d,e,f\n1,2,3,4,5,6\n", "bar x a y count", LIMIT);
        Check.drawn("a,b,c,d,e\n1,2,3,4,5\n", "bar x a y count", "1");
        Check.drawn("a" + "\n1".repeat(13), "bar x a y count", LIMIT);
        Check.drawn("a" + "\n1".repeat(12), "bar x a y count", "1");
        Check.drawn("a\nabcdefghijklm\n", "bar x a y count", LIMIT);
        Check.drawn("abcdefghijklm\na\n", "bar x a y count", LIMIT);
        Check.drawn("abcdefghijkl\na\n", "bar x abcdefghijkl y count", "1");
    }

    private static void goodTexts() {
        String[] texts = {
            "bar x n y count", "line x n y sum v", "point x n y mean v", "bar x n y min v", "line x n y max v",
            "  bar   x n  y count  ", "bar x d y count", "bar x n y sum n", "bar x n y count order up",
            "bar x n y count order down ticks 3", "bar x n y sum v ticks 9 stack t order up", "bar x n y count stack v",
            "bar x n y count where n > 0 where n < 9", "bar x n y count where n > 0 order up where v < 100 ticks 4 stack d",
            "bar x n y sum v where d > 2023-12-31", "point x n y count where n > -1.5"};
        for (String text : texts) {
            Check.drawn(TABLE, text, "3");
        }
    }

    private static void wrongTexts() {
        String[] texts = {
            "", " ", "bar", "bar x", "bar x n", "bar x n y", "bar x n y sum", "Bar x n y count", "bars x n y count",
            "x n y count", "bar n y count", "bar y count x n", "bar x n y count v", "bar x n y median v", "barx n y count",
            "bar x z y count", "bar x n y sum z", "bar x n y sum t", "bar x n y mean d", "bar x n y count count",
            "bar x n y count where", "bar x n y count where n", "bar x n y count where n =", "bar x n y count where z = 1",
            "bar x n y count where n == 1", "bar x n y count where n <> 1", "bar x n y count where n=1",
            "bar x n y count where n = x", "bar x n y count where n = 1234567", "bar x n y count where n = 2024-01-01",
            "bar x n y count where d = 1", "bar x n y count where d = 2023-02-29", "bar x n y count where d < 2024-1-1",
            "bar x n y count where t < a", "bar x n y count where t > a", "bar x n y count where t =",
            "bar x n y count where n > 0 where n > 0 where n > 0", "bar x n y count order", "bar x n y count order UP",
            "bar x n y count order up order up", "bar x n y count order up order down", "bar x n y count stack",
            "bar x n y count stack z", "bar x n y count stack t stack t", "bar x n y mean v stack t", "bar x n y min v stack t",
            "bar x n y max v stack t", "line x n y count stack t", "point x n y sum v stack t", "bar x n y count ticks",
            "bar x n y count ticks 2", "bar x n y count ticks 10", "bar x n y count ticks 05", "bar x n y count ticks 55",
            "bar x n y count ticks 5.", "bar x n y count ticks x",
            "bar x n y count ticks 5 ticks 5", "bar x n y count , order up", "bar x n y count up"};
        for (String text : texts) {
            Check.drawn(TABLE, text, WORDS);
        }
        Check.drawn(TABLE, "bar x n y count" + " a".repeat(60), WORDS);
    }

    private static void namesOfColumns() {
        Check.drawn("x,y\n1,2\n", "bar x x y sum y", "1");
        Check.drawn("where,order\n1,2\n", "bar x where y sum order order up where where = 1", "1");
        Check.drawn("a b\n1\n", "bar x a b y count", WORDS);
        Check.drawn(",b\n1,2\n", "bar x  y count", WORDS);
        Check.drawn("b,\n1,2\n", "bar x b y sum", WORDS);
        Check.drawn("b,\n1,2\n", "bar x b y count stack", WORDS);
        Check.drawn("\"b\"\n1\n", "bar x b y count", "1");
        Check.drawn("\"\"\"b\"\n1\n", "bar x \"b y count", "1");
        Check.drawn("a\n1\n", "bar x A y count", WORDS);
        // The first of two columns with one name, for its type as well.
        Check.drawn("a,a\n1,x\n2,x\n", "bar x a y sum a", "2");
        Check.drawn("a,b,b\n1,x,1\n2,x,2\n", "bar x a y sum b", WORDS);
    }

    private static void rowsThatCount() {
        Check.drawn("a,b\n,1\n2,\n3,1\n", "bar x a y count", "2");
        Check.drawn("a,b\n1,\n2,5\n3,7\n", "bar x a y count where b < 9", "2");
        Check.drawn("a,b\n1,\n2,x\n3,y\n", "bar x a y count where b = x", "1");
        Check.drawn(TABLE, "bar x n y count where v = 20.0", "1");
        Check.drawn(TABLE, "bar x n y count where v < 20", "1");
        Check.drawn(TABLE, "bar x n y count where v > 020", "1");
        Check.drawn(TABLE, "bar x n y count where v > 10 where v < 30", "1");
        Check.drawn(TABLE, "bar x n y count where v > 10 where v > 20", "1");
        Check.drawn(TABLE, "bar x n y count where d < 2024-01-02", "1");
        Check.drawn(TABLE, "bar x n y count where d > 2024-01-01", "2");
        Check.drawn(TABLE, "bar x n y count where d = 2024-01-03", "1");
        Check.drawn(TABLE, "bar x n y count where t = a", "2");
        Check.drawn(TABLE, "bar x n y count where t = a where n = 3", "1");
        Check.drawn(TABLE, "bar x n y count where t = abcdefghijklmnop", GROUPS);
        Check.drawn("a,b\n1,1.0\n2,x\n3,1\n", "bar x a y count where b = 1", "1");
    }

    private static void equalValues() {
        Check.drawn("a\n1\n1.0\n01\n1.000\n", "bar x a y count", "1");
        Check.drawn("a\n0\n-0\n-0.0\n", "bar x a y count", "1");
        Check.drawn("a\n1\n1.0\nx\n", "bar x a y count", "3");
        Check.drawn("a\nx\nX\nx\n", "bar x a y count", "2");
        Check.drawn("a\n2024-01-01\n2024-01-01\n2024-10-01\n", "bar x a y count", "2");
    }

    private static void howManyGroups() {
        Check.drawn("a\n", "bar x a y count", GROUPS);
        Check.drawn("a\n\n", "bar x a y count", GROUPS);
        Check.drawn(TABLE, "bar x n y count where n > 3", GROUPS);
        Check.drawn("a\n1\n2\n3\n4\n5\n6\n7\n8\n", "bar x a y count", "8");
        Check.drawn("a\n1\n2\n3\n4\n5\n6\n7\n8\n9\n", "bar x a y count", GROUPS);
        // Groups without any y value are left out before they are counted, but not from a sum.
        String nine = "a,b\n1,1\n2,1\n3,1\n4,1\n5,1\n6,1\n7,1\n8,1\n9,\n";
        Check.drawn(nine, "bar x a y mean b", "8");
        Check.drawn(nine, "line x a y min b", "8");
        Check.drawn(nine, "point x a y max b", "8");
        Check.drawn(nine, "bar x a y sum b", GROUPS);
        Check.drawn("a,b\n1,\n2,\n", "bar x a y max b", GROUPS);
        Check.drawn("a,b\n1,\n2,\n", "bar x a y sum b", "2");
    }

    private static void howMuchRoom() {
        String count = "bar x a y count";
        // With ticks 0, 0.5 and 1, LEFT is 14: the area of a canvas of 20 has 5 columns, of 21 it has 6.
        Check.due("2 groups in 5 columns", Check.draw(Check.press(20, 18, "a\n1\n2\n", count + " ticks 3")), "2");
        Check.due("3 groups in 5 columns", Check.draw(Check.press(20, 18, "a\n1\n2\n3\n", count + " ticks 3")), ROOM);
        Check.due("3 groups in 6 columns", Check.draw(Check.press(21, 18, "a\n1\n2\n3\n", count + " ticks 3")), "3");
        // Five characters are 19 wide, six are 23.
        Check.due("19 on 20", Check.draw(Check.press(20, 18, "a\nabcde\n", count)), "1");
        Check.due("23 on 22", Check.draw(Check.press(22, 18, "a\nabcdef\n", count)), ROOM);
        Check.due("23 on 23", Check.draw(Check.press(23, 18, "a\nabcdef\n", count)), "1");
        Check.due("a label that would not be shown", Check.draw(Check.press(22, 18, "a\nabcde\nabcdef\n", count)), ROOM);
        Check.due("ticks wider than the canvas", Check.draw(Check.press(20, 18, "a\n-999999.5\n", "bar x a y sum a")), ROOM);
    }

    private static void firstOfThese() {
        Check.drawn("a,b,c,d,e,f\n1\n", "nonsense", DATA);
        Check.drawn("abcdefghijklm\n1\"", "", DATA);
        Check.drawn("a" + "\n1".repeat(20) + "\n1,2", "", DATA);
        Check.drawn(",".repeat(200) + "\n" + ",".repeat(199), "", DATA);
        Check.drawn("a,b,c,d,e,f\n", "nonsense", LIMIT);
        Check.drawn("a\n", "nonsense", WORDS);
        Check.due("no group on a small canvas", Check.draw(Check.press(20, 18, "a\n", "bar x a y count")), GROUPS);
        Check.due("nine groups on a small canvas",
            Check.draw(Check.press(20, 18, "a\n1\n2\n3\n4\n5\n6\n7\n8\n9\n", "bar x a y count")), GROUPS);
    }

    private static void whatWasDrawnStays() {
        ChartPress press = Check.press(TABLE, "bar x n y sum v");
        Check.due("draw", Check.draw(press), "3");
        String picture = Check.picture(press, 48, 32);
        String figures = Check.figures(press);
        String[][] refused = {
            {"a\"", "bar x a y count", DATA}, {"a,b,c,d,e,f", "bar x a y count", LIMIT}, {TABLE, "bar x z y count", WORDS},
            {"a\n", "bar x a y count", GROUPS}, {"a,b\n1,-999999.999\n2,-999999.998\n", "point x a y sum b", ROOM}};
        for (String[] row : refused) {
            Check.refill(press, row[0], row[1]);
            Check.due("draw of what is refused", Check.draw(press), row[2]);
            press.column(0);
            Check.due("picture after " + row[2], Check.picture(press, 48, 32), picture);
            Check.due("figures after " + row[2], Check.figures(press), figures);
            Check.due("values after " + row[2], Check.values(press), "10000 20000 30000");
        }
    }
}
