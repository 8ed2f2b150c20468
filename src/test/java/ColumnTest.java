/** Promise 9: the type of a column as the data are now read. How data are read is in DataTermsTest. */
public final class ColumnTest {
    public static void main(String[] args) {
        typesOfColumns();
        asTheDataAreNow();
        noSuchColumn();
        dataThatCannotBeRead();
        tooMuchData();
        whatDrawDidIsNoMatter();
        Check.end();
    }

    /** "The type of column c" */
    private static void typesOfColumns() {
        Check.columnsAre("n,d,t,m,q\n1,2024-01-01,x,,\"2\"\n", "12311");
        Check.columnsAre("t,d\nx,2024-01-01\n", "32000");
    }

    /** "as the data are now read": it changes with every call of data and wipe. */
    private static void asTheDataAreNow() {
        Press press = new Press();
        Check.due("of no data", press.column(0), 1);
        Check.feedData(press, "a,b\n1,x\n");
        Check.due("column(0) of a row", press.column(0), 1);
        Check.due("column(1) of a row", press.column(1), 3);
        Check.feedData(press, "2024");
        Check.due("column(0) while a record is not whole", press.column(0), 0);
        Check.feedData(press, ",y");
        Check.due("column(0) of two rows", press.column(0), 1);
        Check.feedData(press, "\nz,");
        Check.due("column(0) of three rows", press.column(0), 3);
        press.wipe(false);
        Check.due("column(0) after a wipe of the text", press.column(0), 3);
        press.wipe(true);
        Check.due("column(0) after a wipe of the data", press.column(0), 1);
        Check.due("column(1) after a wipe of the data", press.column(1), 0);
    }

    /** "0 when there is none" */
    private static void noSuchColumn() {
        Press press = Check.press("a,b\n1,x\n", "");
        int[] outside = {-1, 2, 3, 4, 5, 64, 256, 65536, Integer.MAX_VALUE, Integer.MIN_VALUE, Integer.MIN_VALUE + 1};
        for (int c : outside) {
            Check.due("column(" + c + ")", press.column(c), 0);
        }
        Press five = Check.press("a,b,c,d,e\n1,1,1,1,1\n", "");
        Check.due("column(4) of five", five.column(4), 1);
        Check.due("column(5) of five", five.column(5), 0);
    }

    /** "or they cannot be read": also when the columns asked for could be. */
    private static void dataThatCannotBeRead() {
        String[] wrong = {"a,b\n1\n", "a,b\n1,2\"", "a,b\n1,\"2", "a,b\r1,2", "a,b\n1,2\r", "a,b\n1,2\n3,4,5"};
        for (String data : wrong) {
            Check.columnsAre(data, "00000");
        }
    }

    /** "or have more columns, rows or characters in a value than said" */
    private static void tooMuchData() {
        Check.columnsAre("a,b,c,d,e,f\n1,2,3,4,5,6\n", "00000");
        Check.columnsAre("a" + "\n1".repeat(13), "00000");
        Check.columnsAre("a\nabcdefghijklm\n", "00000");
        Check.columnsAre("abcdefghijklm\n1\n", "00000");
        Check.columnsAre("a,b\n" + "1,\n".repeat(12) + ",abcdefghijklm", "00000");
    }

    /** A draw in between, or what it threw, changes no type, and column changes nothing that was drawn. */
    private static void whatDrawDidIsNoMatter() {
        Press press = Check.press("a,b\nx,2\n", "bar x a y sum b");
        Check.due("draw", Check.draw(press), "1");
        String picture = Check.picture(press, 48, 32);
        Check.refill(press, "b,a\n2,x\n", "nonsense");
        Check.due("column(0) of other data", press.column(0), 1);
        Check.due("draw", Check.draw(press), Check.BAD_TEXT);
        Check.due("column(1) of other data", press.column(1), 3);
        Check.due("picture", Check.picture(press, 48, 32), picture);
        Check.due("value(0)", press.value(0), 2000);
    }
}
