/** The sentences of "DATA", one method for each that names an edge. */
public final class DataTermsTest {
    private static final String COUNT = "bar x a y count";
    private static final String TWELVE = "abcdefghijkl";

    public static void main(String[] args) {
        charactersOfAValue();
        recordsAndEndsOfLines();
        carriageReturns();
        commas();
        plainFields();
        quotedFields();
        noDataAtAll();
        lineBreakAtTheVeryEnd();
        asManyFieldsAsTheFirst();
        columnsAndRows();
        fiveColumns();
        twelveRows();
        twelveCharacters();
        missingValues();
        numbers();
        valuesOfNumbers();
        dates();
        leapYears();
        daysOfMonths();
        types();
        Check.end();
    }

    /** "10 (LF), 13 (CR), 32 .. 126": the first and the last of them can be a value. */
    private static void charactersOfAValue() {
        Check.columnsAre("a,b,c,d\n ,~,!,}\n", "33330");
        Check.columnsAre("a,b,c\n\"\n\",\"\r\",\"\r\n\"\n", "33300");
        Check.drawn("~\n1\n", "bar x ~ y count", "1");
        Check.drawn("!\n1\n", "bar x ! y count", "1");
    }

    /** "records = record, any number of (EOL record), EOL or not.  EOL = LF, or CR LF." */
    private static void recordsAndEndsOfLines() {
        Check.drawn("a", COUNT, Check.BAD_COUNT);
        Check.drawn("a\n1", COUNT, "1");
        Check.drawn("a\n1\n2", COUNT, "2");
        Check.drawn("a\n1\n2\n", COUNT, "2");
        Check.drawn("a\r\n1\r\n2", COUNT, "2");
        Check.drawn("a\r\n1\r\n2\r\n", COUNT, "2");
        Check.drawn("a\n1\r\n2\n3\r\n", COUNT, "3");
        Check.columnsAre("a,b\r\n1,x\r\n", "13000");
        Check.columnsAre("a,b\r\n1,x\n2,y\r\n", "13000");
    }

    /** A CR is half of an EOL, or stands in quotes, or the data are not as said. */
    private static void carriageReturns() {
        String[] wrong = {"\r", "a\r", "a\n1\r", "a\r1\n", "a\r\r\n1", "a\n\r1", "a\n1\n\r", "\ra\n1", "a,\r1", "a\n\"1\"\r", "a\n\"1\"\r2"};
        for (String data : wrong) {
            Check.drawn(data, COUNT, Check.BAD_DATA);
            Check.columnsAre(data, "00000");
        }
        Check.drawn("a\n\"1\"\r\n", COUNT, "1");
    }

    /** "record = field, any number of (, field)": there is a field on both sides of every comma. */
    private static void commas() {
        Check.columnsAre(",", "11000");
        Check.columnsAre(",\n1,x", "13000");
        Check.columnsAre("a,b\n1,", "11000");
        Check.columnsAre("a,b\n,x\n", "13000");
        Check.columnsAre("a,,b\n1,x,2024-01-01\n", "13200");
        Check.columnsAre("a,b,\n1,x,\n", "13100");
        Check.columnsAre("a,b\n1,x,\n", "00000");
        Check.columnsAre(",,,,\n,,,,", "11111");
    }

    /** "field = any number of characters but , \" CR LF" */
    private static void plainFields() {
        String[] wrong = {"a\n1\"\n", "a\n1\"2\"\n", "a\n \"1\"\n", "a\"\n1\n", "a\nx\"", "a,b\n1,x\"y\n"};
        for (String data : wrong) {
            Check.drawn(data, COUNT, Check.BAD_DATA);
            Check.columnsAre(data, "00000");
        }
        Check.columnsAre("a,b\n 1,1 \n", "33000");
        Check.columnsAre("a\n'1'\n", "30000");
    }

    /** "or \" any number of (any character but \", or \"\") \", whose value is what is between, each \"\" being one \"." */
    private static void quotedFields() {
        Check.columnsAre("\"\"", "10000");
        Check.columnsAre("a,b,c\n\"12\",\"1,2\",\"2024-01-01\"\n", "13200");
        Check.columnsAre("a,b\n\"1,\n\r\",2\n", "31000");
        Check.columnsAre("a,b\r\n\"1\",\"2\"", "11000");
        Check.drawn("\"b\"\n1\n", "bar x b y count", "1");
        Check.drawn("\"\"\"b\"\n1\n", "bar x \"b y count", "1");
        Check.drawn("\"b\"\"\"\n1\n", "bar x b\" y count", "1");
        Check.drawn("\"\"\"\"\n1\n", "bar x \" y count", "1");
        Check.drawn("\"\"\"\"\"\"\n1\n", "bar x \"\" y count", "1");
        Check.drawn("\"b,c\"\n1\n", "bar x b,c y count", "1");
        Check.labelsAre("a\n\"\"\"\"\nz\n", COUNT, "\"z");
        Check.labelsAre("a\n\",\"\nz\n", COUNT, ",z");
        String[] wrong = {
            "\"", "\"\"\"", "a\n\"1\n", "a\n\"1\"\"\n", "a\n\"1\"2\n", "a\n\"1\" \n", "a\n\"1\" ,2\n", "a\n\"1\"\"2\n", "a\n\"\"1\n",
            "a\n1\n\"", "a,b\n1,\"", "a\n\"1\" \"2\"\n"};
        for (String data : wrong) {
            Check.drawn(data, COUNT, Check.BAD_DATA);
            Check.columnsAre(data, "00000");
        }
    }

    /** "No data at all are one record with one empty field." */
    private static void noDataAtAll() {
        Check.columnsAre("", "10000");
        Check.drawn("", COUNT, Check.BAD_TEXT);
        Check.drawn("", "bar x  y count", Check.BAD_TEXT);
    }

    /** "An EOL at the very end begins no further record." One before the very end does: 12 rows are the most. */
    private static void lineBreakAtTheVeryEnd() {
        Check.columnsAre("\n", "10000");
        Check.columnsAre("\r\n", "10000");
        Check.columnsAre("\n".repeat(13), "10000");
        Check.columnsAre("\n".repeat(14), "00000");
        Check.columnsAre("\r\n".repeat(13), "10000");
        Check.columnsAre("\r\n".repeat(14), "00000");
        Check.columnsAre("a,b\n1,x\n", "13000");
        Check.columnsAre("a,b\n1,x\r\n", "13000");
        Check.columnsAre("a,b\n1,x\n\n", "00000");
        Check.columnsAre("a,b\n1,x\n\r\n", "00000");
        Check.columnsAre("a\n1\n\n", "10000");
        Check.drawn("a,b\n1,x\n", COUNT, "1");
        Check.drawn("a,b\n1,x\n\n", COUNT, Check.BAD_DATA);
    }

    /** "All records have as many fields as the first one" */
    private static void asManyFieldsAsTheFirst() {
        String[] wrong = {
            "a,b\n1\n", "a\n1,2\n", "a,b\n1,2\n3\n", "a,b\n1,2\n3,4,5\n", "a,b\n\n1,2\n", "\n1,2", "a,b\n1,2\n3", ",\n\n",
            "a\n1\n" + ",\n", "a,b\n\"1,2\"\n"};
        for (String data : wrong) {
            Check.drawn(data, COUNT, Check.BAD_DATA);
            Check.columnsAre(data, "00000");
        }
        Check.columnsAre("a,b\n\"1,2\",3\n", "31000");
    }

    /** "the first one, which names the COLUMNS; the others are ROWS" */
    private static void columnsAndRows() {
        Check.columnsAre("1,2024-01-01,x\n1,1,1\n", "11100");
        Check.columnsAre("1,x\nx,1\n", "31000");
        Check.drawn("1\n5\n6\n", "bar x 1 y count", "2");
    }

    /** "At most 5 columns" */
    private static void fiveColumns() {
        Check.columnsAre("a,b,c,d,e\n1,x,2024-01-01,,2\n", "13211");
        Check.drawn("a,b,c,d,e\n1,2,3,4,5\n", "bar x e y count", "1");
        Check.drawn("a,b,c,d,e,f\n1,2,3,4,5,6\n", COUNT, Check.TOO_MUCH);
        Check.columnsAre("a,b,c,d,e,f\n1,2,3,4,5,6\n", "00000");
        Check.columnsAre("a,b,c,d,e,", "00000");
        Check.columnsAre(",".repeat(400), "00000");
        Check.drawn(",".repeat(400), COUNT, Check.TOO_MUCH);
    }

    /** "12 rows" */
    private static void twelveRows() {
        Check.drawn("a" + "\n1".repeat(12), COUNT, "1");
        Check.drawn("a" + "\n1".repeat(12) + "\n", COUNT, "1");
        Check.drawn("a" + "\n1".repeat(12) + "\r\n", COUNT, "1");
        Check.drawn("a" + "\n1".repeat(13), COUNT, Check.TOO_MUCH);
        Check.drawn("a" + "\n1".repeat(12) + "\n\n", COUNT, Check.TOO_MUCH);
        Check.columnsAre("a" + "\n1".repeat(12), "10000");
        Check.columnsAre("a" + "\n1".repeat(11) + "\nx", "30000");
        Check.columnsAre("a" + "\n1".repeat(13), "00000");
        Check.columnsAre("a,b,c,d,e" + "\n1,2,3,4,x".repeat(12), "11113");
        Check.columnsAre("a,b,c,d,e" + "\n1,2,3,4,x".repeat(13), "00000");
        Check.drawn("\n".repeat(400), COUNT, Check.TOO_MUCH);
    }

    /** "12 characters in a value (names of columns, too)" */
    private static void twelveCharacters() {
        Check.columnsAre(TWELVE + "\n" + TWELVE + "\n", "30000");
        Check.drawn(TWELVE + "\n1\n", "bar x " + TWELVE + " y count", "1");
        Check.drawn(TWELVE + "m\n1\n", "bar x " + TWELVE + "m y count", Check.TOO_MUCH);
        Check.drawn("a\n" + TWELVE + "m\n", COUNT, Check.TOO_MUCH);
        Check.columnsAre(TWELVE + "m\n1\n", "00000");
        Check.columnsAre("a\n" + TWELVE + "m\n", "00000");
        Check.columnsAre("a,b\n1," + TWELVE + "m\n", "00000");
        Check.columnsAre("a,b\n1," + TWELVE + "m", "00000");
        // What is between the quotes is counted, and two quotes are one character of it.
        Check.columnsAre("a\n\"" + TWELVE + "\"\n", "30000");
        Check.columnsAre("a\n\"abcdefghijk\"\"\"\n", "30000");
        Check.columnsAre("a\n\"abcdefghijkl\"\"\"\n", "00000");
        Check.columnsAre("a\n\"" + "\"\"".repeat(12) + "\"\n", "30000");
        Check.columnsAre("a\n\"" + "\"\"".repeat(13) + "\"\n", "00000");
        Check.columnsAre("a\n\"" + "\r\n".repeat(6) + "\"\n", "30000");
        Check.columnsAre("a\n\"" + "\r\n".repeat(6) + "\n\"\n", "00000");
        Check.drawn("a".repeat(400), COUNT, Check.TOO_MUCH);
    }

    /** "A value without characters is MISSING." */
    private static void missingValues() {
        Check.drawn("a,b\n,1\n\"\",1\n3,1\n", COUNT, "1");
        Check.drawn("a\n\n\n", COUNT, Check.BAD_COUNT);
        Check.drawn("a\n \n", COUNT, "1");
        Check.columnsAre("a,b\n,\"\"\n,\n", "11000");
        Check.columnsAre("a,b\n , \n", "33000");
    }

    private static void typeIs(String value, int want) {
        Check.due("the type of <" + value + ">", Check.press("a,b\n" + value + ",1\n", "").column(0), want);
    }

    /** "A NUMBER is - or not, 1 to 6 digits, and then, or not, a point and 1 to 3 digits." */
    private static void numbers() {
        String[] good = {
            "0", "-0", "00", "7", "123456", "-123456", "1.5", "1.25", "1.125", "-123456.789", "000001.000", "9", "-9", "999999.999"};
        for (String value : good) {
            typeIs(value, 1);
        }
        String[] bad = {
            "1234567", "0000001", "-1234567", "1.", "-1.", ".5", ".", "-", "-.", "--1", "+1", "1.1234", "0.0000", "1e3", " 1", "1 ",
            "1-", "1.2.3", "1..2", "-.5", "1.-5", "0x1", "1.5 ", "1.5-", "/", ":", "1:", "1/", "1234567.1", "123456.1234", "- 1"};
        for (String value : bad) {
            typeIs(value, 3);
        }
        typeIs("\"1,2\"", 3);
        typeIs("\"1\"\"\"", 3);
        typeIs("\"-1.5\"", 1);
    }

    /** The least and the greatest of them, and each place behind the point, count as they are. */
    private static void valuesOfNumbers() {
        Check.valuesAre("a\n-999999.999\n999999.999\n", "bar x a y sum a", "-999999999 999999999");
        Check.valuesAre("a\n-0\n0.001\n0.01\n0.1\n1.02\n010.3\n", "bar x a y sum a", "0 1 10 100 1020 10300");
        Check.valuesAre("a\n-0.001\n-0.5\n-000001\n", "bar x a y sum a", "-1000 -500 -1");
    }

    /** "A DATE is four digits, -, two digits, -, two digits: a day of the calendar" */
    private static void dates() {
        String[] good = {"0000-01-01", "0001-01-01", "9999-12-31", "2023-12-01", "\"2024-05-05\""};
        for (String value : good) {
            typeIs(value, 2);
        }
        String[] bad = {
            "2023-00-10", "2023-13-10", "2023-20-10", "2023-99-10", "2023-01-00", "2023-00-00", "2023-1-01", "23-01-01", "023-01-01",
            "2023/01/01", "2023-01/01", "2023-01-1", "2023-01-011", "02023-01-01", "2023-01-0a", "2023-0a-01", "a023-01-01",
            "-023-01-01", "2023--1-01", "2023-01--1", "20230101", "2023-0101", "2023-01-", "2023-01", " 2023-01-01", "2023-01-01 ",
            "2023 01 01", "2023-01-01-", "-2023-01-01", "2023-001-01"};
        for (String value : bad) {
            typeIs(value, 3);
        }
    }

    /** "February has 29 in years that 4 divides, but of those that 100 divides only in those that 400 divides" */
    private static void leapYears() {
        String[] leap = {"0000", "0004", "0400", "1996", "2000", "2024", "2400", "9996"};
        for (String year : leap) {
            typeIs(year + "-02-29", 2);
            typeIs(year + "-02-30", 3);
        }
        String[] plain = {"0001", "0100", "1900", "2022", "2023", "2025", "2100", "9900", "9999"};
        for (String year : plain) {
            typeIs(year + "-02-28", 2);
            typeIs(year + "-02-29", 3);
        }
    }

    /** "months of 31, 28, 31, 30, 31, 30, 31, 31, 30, 31, 30, 31 days" */
    private static void daysOfMonths() {
        int[] days = {31, 28, 31, 30, 31, 30, 31, 31, 30, 31, 30, 31};
        for (int month = 1; month <= 12; month++) {
            String start = month < 10 ? "2023-0" + month + "-" : "2023-" + month + "-";
            typeIs(start + "00", 3);
            typeIs(start + "01", 2);
            typeIs(start + days[month - 1], 2);
            typeIs(start + (days[month - 1] + 1), 3);
        }
    }

    /** "1 NUMBER if all its values that are not missing are numbers (also if all are missing), else 2 DATE if all of these are dates, else 3 TEXT" */
    private static void types() {
        Check.columnsAre("a,b", "11000");
        Check.columnsAre("a,b\n,\"\"\n,\n", "11000");
        Check.columnsAre("a,b,c\n,,\n1,2024-01-01,x\n,,\n", "12300");
        Check.columnsAre("a\n1\n2024-01-01\n", "30000");
        Check.columnsAre("a\n2024-01-01\n1\n", "30000");
        Check.columnsAre("a,b\n1,2024-01-01\n2,2024-01-02\nx,x\n", "33000");
        Check.columnsAre("a,b\nx,x\n1,2024-01-01\n2,2024-01-02\n", "33000");
        Check.columnsAre("a\n2024-02-29\n2023-02-29\n", "30000");
    }
}
