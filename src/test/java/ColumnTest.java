/** Promise 9: the types of columns, and how data are read. */
public final class ColumnTest {
    private static final String TWELVE = "abcdefghijkl";

    public static void main(String[] args) {
        numbers();
        dates();
        mixedColumns();
        grammar();
        limits();
        placesOutside();
        Check.end();
    }

    private static void typeOf(String value, int want) {
        Check.due("the type of <" + value + ">", Check.press("a,b\n" + value + ",1\n", "").column(0), want);
    }

    private static void numbers() {
        String[] good = {"0", "-0", "00", "7", "123456", "-123456", "1.5", "1.25", "1.125", "-123456.789", "000001.000"};
        for (String value : good) {
            typeOf(value, 1);
        }
        String[] bad = {"1234567", "1.", ".5", "-", "--1", "+1", "1.1234", "1e3", " 1", "1 ", "1-", "1.2.3", "-.5", "1.-5", "0x1"};
        for (String value : bad) {
            typeOf(value, 3);
        }
        typeOf("\"12\"", 1);
        typeOf("\"1,2\"", 3);
    }

    private static void dates() {
        String[] good = {
            "2024-02-29", "2000-02-29", "0000-02-29", "2023-02-28", "2023-01-31", "2023-03-31", "2023-04-30", "2023-05-31",
            "2023-06-30", "2023-07-31", "2023-08-31", "2023-09-30", "2023-10-31", "2023-11-30", "2023-12-31", "9999-12-01"};
        for (String value : good) {
            typeOf(value, 2);
        }
        String[] bad = {
            "2023-02-29", "1900-02-29", "2100-02-29", "2024-02-30", "2023-04-31", "2023-06-31", "2023-09-31", "2023-11-31",
            "2023-01-32", "2023-00-10", "2023-13-10", "2023-01-00", "2023-1-01", "23-01-01", "2023/01/01", "2023-01-1",
            "2023-01-011", "02023-01-01", "2023-01-0a", "-023-01-01", "2023-01--1"};
        for (String value : bad) {
            typeOf(value, 3);
        }
    }

    private static void mixedColumns() {
        Check.due("no rows", Check.columns("a,b"), "11000");
        Check.due("all missing", Check.columns("a,b\n,\"\"\n,\n"), "11000");
        Check.due("missing ones do not matter", Check.columns("a,b,c\n,,\n1,2024-01-01,x\n,,\n"), "12300");
        Check.due("numbers and dates are texts", Check.columns("a\n1\n2024-01-01\n"), "30000");
        Check.due("names do not matter", Check.columns("1,2024-01-01,x\n1,1,1\n"), "11100");
        Check.due("the last value matters", Check.columns("a,b\n1,2024-01-01\n2,2024-01-02\nx,x\n"), "33000");
        Check.due("five columns", Check.columns("a,b,c,d,e\n1,x,2024-01-01,,2\n"), "13211");
    }

    private static void grammar() {
        Check.due("no data", Check.columns(""), "10000");
        Check.due("LF alone is one record", Check.columns("\n"), "10000");
        Check.due("LF LF: a row with a missing value", Check.columns("\n\n"), "10000");
        Check.due("CR LF", Check.columns("a,b\r\n1,x\r\n"), "13000");
        Check.due("LF and CR LF", Check.columns("a,b\r\n1,x\n2,y\r\n"), "13000");
        Check.due("no EOL at the end", Check.columns("a,b\n1,x"), "13000");
        Check.due("an empty row of two columns", Check.columns("a,b\n1,x\n\n"), "00000");
        Check.due("an empty row of one column", Check.columns("a\n1\n\n"), "10000");
        Check.due("a comma at the end", Check.columns("a,b\n1,"), "11000");
        Check.due("CR without LF", Check.columns("a\r1\n"), "00000");
        Check.due("CR at the end", Check.columns("a\n1\r"), "00000");
        Check.due("CR CR LF", Check.columns("a\r\r\n1"), "00000");
        Check.due("too few fields", Check.columns("a,b\n1\n"), "00000");
        Check.due("too many fields", Check.columns("a\n1,2\n"), "00000");
        Check.due("a quote within", Check.columns("a\n1\"\n"), "00000");
        Check.due("a quote behind a blank", Check.columns("a\n \"1\"\n"), "00000");
        Check.due("something behind a quote", Check.columns("a\n\"1\"2\n"), "00000");
        Check.due("a blank behind a quote", Check.columns("a\n\"1\" \n"), "00000");
        Check.due("an open quote", Check.columns("a\n\"1\n"), "00000");
        Check.due("an open quote behind two", Check.columns("a\n\"1\"\"\n"), "00000");
        Check.due("a quote alone", Check.columns("\""), "00000");
        Check.due("two quotes alone", Check.columns("\"\""), "10000");
        Check.due("comma and EOL in quotes", Check.columns("a,b\n\"1,\n\r\",2\n"), "31000");
        Check.due("a quoted end", Check.columns("a,b\r\n\"1\",\"2\""), "11000");
    }

    private static void limits() {
        Check.due("six columns", Check.columns("a,b,c,d,e,f\n1,2,3,4,5,6\n"), "00000");
        Check.due("twelve rows", Check.columns("a" + "\n1".repeat(12)), "10000");
        Check.due("twelve rows and EOL", Check.columns("a" + "\n1".repeat(12) + "\n"), "10000");
        Check.due("thirteen rows", Check.columns("a" + "\n1".repeat(13)), "00000");
        Check.due("twelve rows and an empty one", Check.columns("a" + "\n1".repeat(12) + "\n\n"), "00000");
        Check.due("twelve characters", Check.columns(TWELVE + "\n" + TWELVE + "\n"), "30000");
        Check.due("thirteen in a name", Check.columns(TWELVE + "m\n1\n"), "00000");
        Check.due("thirteen in a value", Check.columns("a\n" + TWELVE + "m\n"), "00000");
        Check.due("twelve with a doubled quote", Check.columns("a\n\"abcdefghijk\"\"\"\n"), "30000");
        Check.due("thirteen with a doubled quote", Check.columns("a\n\"abcdefghijkl\"\"\"\n"), "00000");
        Check.due("thirteen behind a table's worth", Check.columns("a,b\n" + "1,\n".repeat(12) + "," + TWELVE + "m"), "00000");
        Check.due("400 commas", Check.columns(",".repeat(400)), "00000");
        Check.due("400 LF", Check.columns("\n".repeat(400)), "00000");
    }

    private static void placesOutside() {
        ChartPress press = Check.press("a,b\n1,x\n", "");
        int[] outside = {-1, 2, 4, 5, 64, Integer.MAX_VALUE, Integer.MIN_VALUE};
        for (int c : outside) {
            Check.due("column(" + c + ")", press.column(c), 0);
        }
        Check.feedData(press, "2024");
        Check.due("column(0) while a record is not whole", press.column(0), 0);
        Check.feedData(press, ",y");
        Check.due("column(0) as the data are now", press.column(0), 1);
    }
}
