/** The sentences of "THE CHART'S TEXT", one method for each that names an edge. */
public final class ChartTextTermsTest {
    private static final String TABLE = "n,v,d,t\n1,10,2024-01-01,a\n2,20,2024-01-02,b\n3,30,2024-01-03,a\n";
    private static final String COUNT = "bar x n y count";

    public static void main(String[] args) {
        wordsAndBlanks();
        fullText();
        marks();
        columnOfX();
        measureOfY();
        everyBeginning();
        clausesInAnyOrder();
        clausesAtMostOnce();
        whereAtMostTwice();
        whereHasItsWords();
        bothWheresHold();
        orders();
        stacks();
        ticks();
        otherClauses();
        namesOfColumns();
        firstColumnOfAName();
        columnsWithoutAName();
        columnOfYIsANumber();
        wordForANumber();
        wordForADate();
        wordForAText();
        Check.end();
    }

    private static void good(String text) {
        Check.drawn(TABLE, text, "3");
    }

    private static void wrong(String text) {
        Check.drawn(TABLE, text, Check.BAD_TEXT);
    }

    /** "WORDS are its rows of characters but blanks": no text, blanks alone, blanks before, between and behind. */
    private static void wordsAndBlanks() {
        wrong("");
        wrong(" ");
        wrong(" ".repeat(160));
        good("  bar   x n  y count  ");
        good(" bar x n y count");
        good("bar x n y count ");
        wrong("barx n y count");
        wrong("ba r x n y count");
        wrong("bar,x,n,y,count");
        wrong("bar xn y count");
    }

    /** "at most 160 characters": a text of just as many is carried out. */
    private static void fullText() {
        good(COUNT + " ".repeat(145));
        good("bar" + " ".repeat(145) + " x n y count");
        wrong("b".repeat(160));
        wrong("b ".repeat(80));
        String full = "bar x abcdefghijkl y sum mnopqrstuvwx where abcdefghijkl = 999999.999"
            + " where mnopqrstuvwx = 999999.999 order down stack abcdefghijkl ticks 9";
        Check.drawn("abcdefghijkl,mnopqrstuvwx\n999999.999,999999.999\n", full + " ".repeat(160 - full.length()), "1");
    }

    /** "a mark: bar, line or point" */
    private static void marks() {
        good("bar x n y count");
        good("line x n y count");
        good("point x n y count");
        String[] others = {"Bar", "BAR", "bars", "ba", "b", "lines", "lin", "points", "poin", "area", "x", "count", "barline"};
        for (String mark : others) {
            wrong(mark + " x n y count");
        }
        wrong("x n y count");
        wrong("bar bar x n y count");
        wrong("bar line x n y count");
    }

    /** "x and a column" */
    private static void columnOfX() {
        good("bar x n y count");
        good("bar x d y count");
        Check.drawn(TABLE, "bar x t y count", "2");
        wrong("bar n y count");
        wrong("bar X n y count");
        wrong("bar xx n y count");
        wrong("bar x z y count");
        wrong("bar x y count");
        wrong("bar x n n y count");
        wrong("bar y count x n");
    }

    /** "y and one of count, sum, mean, min, max, but for count with a column behind it" */
    private static void measureOfY() {
        String[] measures = {"sum", "mean", "min", "max"};
        for (String measure : measures) {
            good("line x n y " + measure + " v");
            good("line x n y " + measure + " n");
            wrong("line x n y " + measure);
            wrong("line x n y " + measure + " z");
            wrong("line x n y " + measure + " v v");
            wrong("line x n y " + measure + " order up");
        }
        good("line x n y count");
        wrong("line x n y count v");
        wrong("line x n y count n");
        wrong("line x n y count count");
        String[] others = {"Count", "counts", "coun", "median", "Sum", "su", "sums", "avg", "v", "mi", "minimum", "maxi"};
        for (String measure : others) {
            wrong("line x n y " + measure);
            wrong("line x n y " + measure + " v");
        }
        wrong("line x n Y count");
        wrong("line x n yy count");
        wrong("line x n count");
    }

    /** Of a text with all clauses, just those beginnings are as said that end where a clause ends. */
    private static void everyBeginning() {
        String[] words = "bar x n y sum v where n > 0 where v < 99 order up stack t ticks 4".split(" ");
        String ends = " 6 10 14 16 18 20 ";
        StringBuilder text = new StringBuilder();
        for (int i = 0; i < words.length; i++) {
            text.append(i == 0 ? "" : " ").append(words[i]);
            if (ends.contains(" " + (i + 1) + " ")) {
                good(text.toString());
            } else {
                wrong(text.toString());
            }
        }
    }

    /** "then any number of": the clauses in each of their orders. */
    private static void clausesInAnyOrder() {
        String[] clauses = {"where n > 1", "where v < 30", "order down", "stack t", "ticks 3"};
        arrange("bar x n y sum v", clauses, new boolean[clauses.length], 0);
    }

    private static void arrange(String text, String[] clauses, boolean[] used, int depth) {
        if (depth == clauses.length) {
            Check.figuresAre(TABLE, text, "1 10 0 20000 10000 3 1");
        }
        for (int i = 0; i < clauses.length; i++) {
            if (!used[i]) {
                used[i] = true;
                arrange(text + " " + clauses[i], clauses, used, depth + 1);
                used[i] = false;
            }
        }
    }

    /** "each at most once" */
    private static void clausesAtMostOnce() {
        String[] clauses = {"order up", "order down", "stack t", "stack v", "ticks 3", "ticks 9"};
        for (String clause : clauses) {
            good(COUNT + " " + clause);
            wrong(COUNT + " " + clause + " " + clause);
            wrong(COUNT + " " + clause + " where n > 0 " + clause);
        }
        wrong(COUNT + " order up order down");
        wrong(COUNT + " order down order up");
        wrong(COUNT + " stack t stack v");
        wrong(COUNT + " ticks 3 ticks 4");
    }

    /** "(where twice)" */
    private static void whereAtMostTwice() {
        good(COUNT + " where n > 0");
        good(COUNT + " where n > 0 where n > 0");
        good(COUNT + " where n > 0 order up where v < 100 ticks 4 stack d");
        wrong(COUNT + " where n > 0 where n > 0 where n > 0");
        wrong(COUNT + " where n > 0 where v > 0 order up where n < 9");
    }

    /** "where, a column, one of = < > and a word" */
    private static void whereHasItsWords() {
        wrong(COUNT + " where");
        wrong(COUNT + " where n");
        wrong(COUNT + " where n >");
        wrong(COUNT + " where > 0");
        wrong(COUNT + " where z > 0");
        wrong(COUNT + " where n 0");
        wrong(COUNT + " where n > 0 0");
        wrong(COUNT + " where n > order up");
        String[] signs = {"==", "<>", "<=", ">=", "=<", "!=", ">>", "eq", "0", "!", "~", "?", ";", "=<>"};
        for (String sign : signs) {
            wrong(COUNT + " where n " + sign + " 0");
        }
        wrong(COUNT + " where n>0");
        wrong(COUNT + " where n >0");
        wrong(COUNT + " where n> 0");
        wrong(COUNT + " n > 0");
    }

    /** "(Two wheres must both hold, also of one column.)" */
    private static void bothWheresHold() {
        Check.drawn(TABLE, COUNT + " where v > 10 where v < 30", "1");
        Check.drawn(TABLE, COUNT + " where v > 10 where v > 20", "1");
        Check.drawn(TABLE, COUNT + " where v > 20 where v > 10", "1");
        Check.drawn(TABLE, COUNT + " where n = 1 where n = 2", Check.BAD_COUNT);
        Check.drawn(TABLE, COUNT + " where t = a where n > 1", "1");
        Check.drawn(TABLE, COUNT + " where d > 2024-01-01 where t = b", "1");
        Check.drawn(TABLE, COUNT + " where t = b where t = a", Check.BAD_COUNT);
        // The first is as said, the second is not, and the other way round.
        wrong(COUNT + " where n > 0 where n > x");
        wrong(COUNT + " where n > x where n > 0");
    }

    /** "order and one of up, down" */
    private static void orders() {
        good(COUNT + " order up");
        good(COUNT + " order down");
        String[] others = {"", "UP", "Down", "u", "ups", "dow", "left", "n", "updown"};
        for (String word : others) {
            wrong(COUNT + " order " + word);
        }
        wrong(COUNT + " up");
        wrong(COUNT + " order order up");
        wrong(COUNT + " order up down");
    }

    /** "stack and a column (only with bar, and count or sum)" */
    private static void stacks() {
        good("bar x n y count stack t");
        good("bar x n y sum v stack t");
        good("bar x n y count stack n");
        good("bar x n y count stack v");
        good("bar x n y sum v stack v");
        good("bar x n y count stack d");
        wrong("bar x n y mean v stack t");
        wrong("bar x n y min v stack t");
        wrong("bar x n y max v stack t");
        String[] marks = {"line", "point"};
        for (String mark : marks) {
            wrong(mark + " x n y count stack t");
            wrong(mark + " x n y sum v stack t");
            wrong(mark + " x n y mean v stack t");
        }
        wrong("bar x n y count stack");
        wrong("bar x n y count stack z");
        wrong("bar x n y count stack T");
    }

    /** "ticks and a number of one digit 3 .. 9" */
    private static void ticks() {
        for (int i = 3; i <= 9; i++) {
            good(COUNT + " ticks " + i);
        }
        String[] others = {"", "0", "1", "2", ":", "10", "05", "55", "33", "5.", "5.0", "-5", "+5", "x", "five", "3 3"};
        for (String word : others) {
            wrong(COUNT + " ticks " + word);
        }
    }

    /** What is none of the clauses is not as said, wherever it stands, and however much there is. */
    private static void otherClauses() {
        wrong(COUNT + " ,");
        wrong(COUNT + " , order up");
        wrong(COUNT + " order up .");
        wrong(COUNT + " Where n > 0");
        wrong(COUNT + " wher n > 0");
        wrong(COUNT + " orders up");
        wrong(COUNT + " tick 5");
        wrong(COUNT + " stacks t");
        wrong(COUNT + " bar x n y count");
        for (int words = 1; words <= 72; words++) {
            wrong(COUNT + " a".repeat(words));
        }
        wrong("bar x n y sum v where n > 0 where v < 99 order up stack t ticks 4 ticks");
        wrong("bar x n y sum v where n > 0 where v < 99 order up stack t ticks 4 4");
    }

    /** "A column is told by a word that is its name": as it is written, and as a whole. */
    private static void namesOfColumns() {
        Check.drawn("x,y\n1,2\n", "bar x x y sum y", "1");
        Check.drawn("y,x\n1,2\n", "bar x y y sum x", "1");
        Check.drawn("where,order\n1,2\n", "bar x where y sum order order up where where = 1", "1");
        Check.drawn("=,<\n1,2\n", "bar x = y sum < where < = 2", "1");
        Check.drawn("count\n1\n", "bar x count y count", "1");
        Check.drawn("count\n1\n", "bar x count y sum count", "1");
        Check.drawn("stack,up\n1,2\n", "bar x stack y count stack up order up", "1");
        Check.drawn("1,2024-01-01\n1,2\n", "bar x 2024-01-01 y sum 1", "1");
        Check.drawn("1\n1\n", "bar x 1.0 y count", Check.BAD_TEXT);
        Check.drawn("a\n1\n", "bar x A y count", Check.BAD_TEXT);
        Check.drawn("ab\n1\n", "bar x a y count", Check.BAD_TEXT);
        Check.drawn("ab\n1\n", "bar x abc y count", Check.BAD_TEXT);
        Check.drawn("abcdefghijkl\n1\n", "bar x abcdefghijklm y count", Check.BAD_TEXT);
        Check.drawn("a b\n1\n", "bar x a b y count", Check.BAD_TEXT);
        Check.drawn(" a\n1\n", "bar x a y count", Check.BAD_TEXT);
        Check.drawn("a \n1\n", "bar x a y count", Check.BAD_TEXT);
        Check.drawn("\"a\n\"\n1\n", "bar x a y count", Check.BAD_TEXT);
        Check.drawn("a\n", "bar x b y count", Check.BAD_TEXT);
    }

    /** "the first such column, for its type as well" */
    private static void firstColumnOfAName() {
        Check.valuesAre("a,a\n1,x\n2,x\n", "bar x a y sum a", "1000 2000");
        Check.valuesAre("a,b,b\n1,3,9\n2,4,9\n", "bar x a y sum b", "3000 4000");
        Check.valuesAre("a,b,b\n1,3,9\n2,4,9\n", "bar x a y sum b where b > 3", "4000");
        Check.drawn("a,b,b\n1,x,1\n2,x,2\n", "bar x a y sum b", Check.BAD_TEXT);
        Check.drawn("a,b,b\n1,x,1\n2,y,2\n", "bar x a y count where b = x", "1");
        Check.drawn("a,b,b\n1,x,1\n2,y,2\n", "bar x a y count where b < 2", Check.BAD_TEXT);
        Check.drawn("a,b,b\n1,1,x\n2,2,y\n", "bar x a y count where b < 2", "1");
        Check.drawn("a,b,b\n1,1,x\n2,2,y\n", "bar x a y count where b = x", Check.BAD_TEXT);
    }

    /** "(one without a name can't be told)" */
    private static void columnsWithoutAName() {
        Check.drawn(",b\n1,2\n", "bar x  y count", Check.BAD_TEXT);
        Check.drawn(",b\n1,2\n", "bar x \"\" y count", Check.BAD_TEXT);
        Check.drawn("b,\n1,2\n", "bar x b y sum", Check.BAD_TEXT);
        Check.drawn("b,\n1,2\n", "bar x b y count stack", Check.BAD_TEXT);
        Check.drawn("b,\n1,2\n", "bar x b y count where", Check.BAD_TEXT);
        Check.drawn("b,\"\"\n1,2\n", "bar x b y sum", Check.BAD_TEXT);
        Check.drawn("b,\n1,2\n", "bar x b y count", "1");
    }

    /** "The column of y is of type NUMBER." */
    private static void columnOfYIsANumber() {
        String[] measures = {"sum", "mean", "min", "max"};
        for (String measure : measures) {
            wrong("bar x n y " + measure + " t");
            wrong("bar x n y " + measure + " d");
        }
        // All missing is NUMBER, too, and one other value among numbers is enough to be none.
        Check.drawn("a,b\n1,\n2,\n", "bar x a y sum b", "2");
        Check.drawn("a,b\n1,1\n2,x\n", "bar x a y sum b", Check.BAD_TEXT);
        Check.drawn("a,b\n1,1\n2,x\n", "bar x a y sum b where a = 1", Check.BAD_TEXT);
    }

    /** "A word behind = < > is a value as the column's type says": NUMBER. */
    private static void wordForANumber() {
        String[] signs = {"=", "<", ">"};
        for (String sign : signs) {
            String where = COUNT + " where n " + sign + " ";
            String[] others = {"x", "1234567", "1.", ".5", "-", "+1", "1.1234", "2024-01-01", "--1", "1,5", "\"1\"", "=", "n"};
            for (String word : others) {
                wrong(where + word);
            }
        }
        good(COUNT + " where n > -1.5");
        good(COUNT + " where n < 123456.789");
        good(COUNT + " where n > -123456.789");
        good(COUNT + " where n < 999999.999");
        // A column all of whose values are missing is NUMBER.
        Check.drawn("a,b\n1,\n", "bar x a y count where b = 1", Check.BAD_COUNT);
        Check.drawn("a,b\n1,\n", "bar x a y count where b = x", Check.BAD_TEXT);
    }

    /** The same: DATE. */
    private static void wordForADate() {
        String[] signs = {"=", "<", ">"};
        for (String sign : signs) {
            String where = COUNT + " where d " + sign + " ";
            String[] others = {"1", "x", "2024-1-1", "2023-02-29", "2024-00-01", "2024-13-01", "2024-01-32", "2024-01-01x", "20240101"};
            for (String word : others) {
                wrong(where + word);
            }
        }
        good(COUNT + " where d > 0000-02-29");
        good(COUNT + " where d < 9999-12-31");
        good(COUNT + " where d > 2023-12-31");
    }

    /** "(for TEXT any word, and only =)" */
    private static void wordForAText() {
        wrong(COUNT + " where t < a");
        wrong(COUNT + " where t > a");
        wrong(COUNT + " where t < 1");
        wrong(COUNT + " where t =");
        Check.drawn(TABLE, COUNT + " where t = a", "2");
        Check.drawn(TABLE, COUNT + " where t = 1", Check.BAD_COUNT);
        Check.drawn(TABLE, COUNT + " where t = where", Check.BAD_COUNT);
        Check.drawn(TABLE, COUNT + " where t = =", Check.BAD_COUNT);
        Check.drawn(TABLE, COUNT + " where t = abcdefghijklmnop", Check.BAD_COUNT);
        Check.drawn("a\nabcdefghijkl\n", "bar x a y count where a = abcdefghijklm", Check.BAD_COUNT);
        Check.drawn("a\nabcdefghijkl\n", "bar x a y count where a = abcdefghijkl", "1");
        Check.drawn("a\norder\n", "bar x a y count where a = order order up", "1");
    }
}
