/** Promise 6: what draw answers, what it throws, and which comes first. The rules behind it are in the tests of the terms. */
public final class DrawTest {
    private static final String TABLE = "n,v,d,t\n1,10,2024-01-01,a\n2,20,2024-01-02,b\n3,30,2024-01-03,a\n";
    private static final String COUNT = "bar x a y count";

    public static void main(String[] args) {
        howManyGroups();
        dataNotAsSaid();
        tooMuchData();
        textNotAsSaid();
        noGroupOrTooMany();
        tooLittleRoom();
        dataBeforeLimits();
        limitsBeforeText();
        textBeforeGroups();
        groupsBeforeRoom();
        whatWasDrawnStays();
        nothingDrawnStaysNothing();
        drawnAgain();
        Check.end();
    }

    /** "how many groups there are" */
    private static void howManyGroups() {
        Check.drawn(TABLE, "bar x n y count", "3");
        Check.drawn(TABLE, "bar x t y count", "2");
        Check.drawn(TABLE, "line x d y mean v where n < 2", "1");
        Check.drawn("a\n1\n2\n3\n4\n5\n6\n7\n8\n", COUNT, "8");
    }

    /** "IllegalArgumentException: the data are not as said" */
    private static void dataNotAsSaid() {
        String[] wrong = {"a,b\n1\n", "a\n1,2\n", "a\n1\"\n", "a\n\"1", "a\n\"1\"x\n", "a\r1\n", "a\n1\r"};
        for (String data : wrong) {
            Check.drawn(data, COUNT, Check.BAD_DATA);
        }
    }

    /** "UnsupportedOperationException: they have more columns, rows or characters in a value than said" */
    private static void tooMuchData() {
        Check.drawn("a,b,c,d,e,f\n1,2,3,4,5,6\n", COUNT, Check.TOO_MUCH);
        Check.drawn("a" + "\n1".repeat(13), COUNT, Check.TOO_MUCH);
        Check.drawn("a\nabcdefghijklm\n", COUNT, Check.TOO_MUCH);
        Check.drawn("a,abcdefghijklm\n1,2\n", COUNT, Check.TOO_MUCH);
    }

    /** "IllegalStateException: the text is not as said, names no column, or a value or column is not of its type" */
    private static void textNotAsSaid() {
        Check.drawn(TABLE, "", Check.BAD_TEXT);
        Check.drawn(TABLE, "bar x n y count ticks 2", Check.BAD_TEXT);
        Check.drawn(TABLE, "bar x z y count", Check.BAD_TEXT);
        Check.drawn(TABLE, "bar x n y sum z", Check.BAD_TEXT);
        Check.drawn(TABLE, "bar x n y count where z = 1", Check.BAD_TEXT);
        Check.drawn(TABLE, "bar x n y count stack z", Check.BAD_TEXT);
        Check.drawn(TABLE, "bar x n y count where n = a", Check.BAD_TEXT);
        Check.drawn(TABLE, "bar x n y sum t", Check.BAD_TEXT);
        Check.drawn("", "", Check.BAD_TEXT);
    }

    /** "ArithmeticException: no group, or more than 8" */
    private static void noGroupOrTooMany() {
        Check.drawn("a\n", COUNT, Check.BAD_COUNT);
        Check.drawn("a\n1\n2\n3\n4\n5\n6\n7\n8\n9\n", COUNT, Check.BAD_COUNT);
    }

    /** "IndexOutOfBoundsException: the area is too small, or a label does not fit" */
    private static void tooLittleRoom() {
        Check.drawnOn(20, 18, "a\n1\n2\n3\n", COUNT, Check.NO_ROOM);
        Check.drawnOn(22, 18, "a\nabcdef\n", COUNT, Check.NO_ROOM);
        Check.drawnOn(22, 18, "a\nabcde\nabcdef\n", COUNT, Check.NO_ROOM);
        Check.drawnOn(20, 18, "a\n-999999.5\n", "bar x a y sum a", Check.NO_ROOM);
    }

    /** "(The first of these.)": the data are read to their end before their limits are looked at. */
    private static void dataBeforeLimits() {
        Check.drawn("a,b,c,d,e,f\n1\n", "nonsense", Check.BAD_DATA);
        Check.drawn("a,b,c,d,e,f\n1,2,3,4,5,6,7\n", "", Check.BAD_DATA);
        Check.drawn("abcdefghijklm\n1\"", "", Check.BAD_DATA);
        Check.drawn("a" + "\n1".repeat(20) + "\n1,2", "", Check.BAD_DATA);
        Check.drawn("a" + "\n1".repeat(20) + "\n\"", "", Check.BAD_DATA);
        Check.drawn("a" + "\n1".repeat(198) + "\n\r", "", Check.BAD_DATA);
        Check.drawn(",".repeat(200) + "\n" + ",".repeat(199), "", Check.BAD_DATA);
        Check.drawn(",".repeat(199) + "\n" + ",".repeat(199), "", Check.TOO_MUCH);
        Check.drawn("a".repeat(399) + "\"", "", Check.BAD_DATA);
        Check.drawn("\"" + "a".repeat(399), "", Check.BAD_DATA);
        Check.drawn("\"" + "a".repeat(398) + "\"", "", Check.TOO_MUCH);
    }

    /** The same: limits before the text. */
    private static void limitsBeforeText() {
        Check.drawn("a,b,c,d,e,f\n", "nonsense", Check.TOO_MUCH);
        Check.drawn("a,b,c,d,e,f\n1,2,3,4,5,6\n", "bar x z y count", Check.TOO_MUCH);
        Check.drawn("a" + "\n1".repeat(13), "", Check.TOO_MUCH);
        Check.drawn("a\nabcdefghijklm\n", "", Check.TOO_MUCH);
    }

    /** The same: the text before the groups, also where its last word is the wrong one. */
    private static void textBeforeGroups() {
        Check.drawn("a\n", "nonsense", Check.BAD_TEXT);
        Check.drawn("a\n", COUNT + " ticks 2", Check.BAD_TEXT);
        Check.drawn("a\n1\n2\n3\n4\n5\n6\n7\n8\n9\n", COUNT + " order sideways", Check.BAD_TEXT);
        Check.due("a wrong text on a small canvas", Check.draw(Check.press(20, 18, "a\nabcdef\n", COUNT + " x")), Check.BAD_TEXT);
    }

    /** The same: the groups before the room. */
    private static void groupsBeforeRoom() {
        Check.drawnOn(20, 18, "a\n", COUNT, Check.BAD_COUNT);
        Check.drawnOn(20, 18, "a\n1\n2\n3\n4\n5\n6\n7\n8\n9\n", COUNT, Check.BAD_COUNT);
        Check.drawnOn(20, 18, "a\nabcdefghijkl\n", COUNT + " where a = b", Check.BAD_COUNT);
    }

    /** "When it throws, what was drawn before stays (and is told still)." */
    private static void whatWasDrawnStays() {
        Press press = Check.press(TABLE, "bar x n y sum v");
        Check.due("draw", Check.draw(press), "3");
        String picture = Check.picture(press, 48, 32);
        String figures = Check.figures(press);
        String[][] refused = {
            {"a\"", COUNT, Check.BAD_DATA}, {"a,b,c,d,e,f", COUNT, Check.TOO_MUCH}, {TABLE, "bar x z y count", Check.BAD_TEXT},
            {"a\n", COUNT, Check.BAD_COUNT}, {"a\n1\n2\n3\n4\n5\n6\n7\n8\n9\n", COUNT, Check.BAD_COUNT},
            {"a,b\n1,-999999.999\n2,-999999.998\n", "point x a y sum b", Check.NO_ROOM}};
        for (String[] row : refused) {
            Check.refill(press, row[0], row[1]);
            Check.due("draw of what is refused", Check.draw(press), row[2]);
            press.column(0);
            Check.due("picture after " + row[2], Check.picture(press, 48, 32), picture);
            Check.due("figures after " + row[2], Check.figures(press), figures);
            Check.due("values after " + row[2], Check.values(press), "10000 20000 30000");
            Check.due("value(3) after " + row[2], press.value(3), 0);
        }
    }

    /** Also when that is nothing, since the canvas was changed. */
    private static void nothingDrawnStaysNothing() {
        Press press = Check.press(TABLE, "bar x d y sum v");
        Check.due("draw", Check.draw(press), "3");
        // The labels are 39 wide.
        Check.due("canvas", press.canvas(38, 32), true);
        Check.due("draw", Check.draw(press), Check.NO_ROOM);
        Check.due("figures", Check.figures(press), "-1 -1 -1 -1 -1 -1 -1");
        Check.due("pixel(0, 0)", press.pixel(0, 0), -1);
        Check.due("value(0)", press.value(0), 0);
    }

    /** Nothing of a chart before, drawn or refused, has a part in the next one: each behind each other, and behind itself. */
    private static void drawnAgain() {
        String parts = "a,v,k\n1,-9,p\n1,2,q\n1,3,r\n1,4,s\n2,5,t\n2,-6,u\n3,7,\n4,,p\n";
        String[][] charts = {
            {TABLE, "bar x n y sum v"}, {TABLE, "line x t y count"}, {TABLE, "point x d y mean v"}, {TABLE, "bar x n y sum v order down"},
            {TABLE, "bar x n y sum v where n > 1"}, {TABLE, "bar x n y sum v where n > 1 where n < 3 ticks 9"},
            {TABLE, "bar x n y count where t = a stack t"}, {parts, "bar x a y sum v stack k"}, {parts, "bar x a y sum v"},
            {parts, "line x a y max v where v < 0"}, {parts, "bar x a y min v order up"}, {parts, "bar x a y count stack k ticks 3"},
            {"a\n1\n2\n3\n4\n5\n6\n7\n8\n", "bar x a y sum a"}, {"a\n0.001\n", "point x a y sum a"}, {"a\n\"\"\"\"\n", COUNT},
            {"a,b\n1,2\"", COUNT}, {"a,b,c\n1,2,\"", COUNT}, {"a,b\n1,2,3\n", COUNT}, {"a,b,c,d,e,f\n,,,,,\n", COUNT},
            {"a\nabcdefghijklm\n", COUNT}, {"a\n\n", COUNT}, {"a\n1\n2\n3\n4\n5\n6\n7\n8\n9\n", COUNT}, {TABLE, "bar x n"},
            {TABLE, "bar x n y count where n > 1 where n > 2 order up stack t ticks 3 ticks"}, {"a\n-999999.999\n-999999.998\n", "line x a y sum a"}};
        for (String[] chart : charts) {
            Press alone = Check.press(chart[0], chart[1]);
            String answer = Check.draw(alone);
            for (String[] before : charts) {
                Press press = Check.press(before[0], before[1]);
                Check.draw(press);
                Check.due("canvas", press.canvas(48, 32), true);
                Check.refill(press, chart[0], chart[1]);
                String what = "<" + chart[0] + "> by <" + chart[1] + "> behind <" + before[0] + "> by <" + before[1] + ">";
                Check.due("draw of " + what, Check.draw(press), answer);
                Check.due("figures of " + what, Check.figures(press), Check.figures(alone));
                Check.due("values of " + what, Check.values(press), Check.values(alone));
                Check.due("picture of " + what, Check.picture(press, 48, 32), Check.picture(alone, 48, 32));
                Check.due("column(0) of " + what, press.column(0), alone.column(0));
            }
        }
    }
}
