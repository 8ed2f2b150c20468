import java.util.Arrays;

/** Reads comma-separated values and a chart's text, and draws the chart as pixels. */
public final class ChartPress {
    private static final int NONE = -1;
    private static final int DATA_LIMIT = 400;
    private static final int TEXT_LIMIT = 160;
    private static final int MAX_COLUMNS = 5;
    private static final int MAX_ROWS = 12;
    private static final int MAX_LETTERS = 12;
    private static final int MAX_GROUPS = 8;

    private static final int NUMBER = 1;
    private static final int DATE = 2;
    private static final int TEXT = 3;

    private static final int BAR = 0;
    private static final int LINE = 1;
    private static final int POINT = 2;

    private static final int COUNT = 0;
    private static final int SUM = 1;
    private static final int MEAN = 2;
    private static final int MIN = 3;
    private static final int MAX = 4;

    /** A mean is of 1 to 12 values: all of these divide 27720, so amounts in this unit are exact. */
    private static final long FINE = 27720;
    private static final long ONE = 1000 * FINE;

    private static final int AXIS_COLOUR = 1;
    private static final int LETTER_COLOUR = 2;
    private static final int MARK_COLOUR = 3;
    private static final int MARK_COLOURS = 4;

    private final Script dataScript;
    private final Script chartScript;
    private final Table table;
    private final Request request;
    private final Groups groups;
    private final Scale scale;
    private final Layout layout;
    private final Sheet sheet;
    private final Letters tickLabel;
    private final long[] figures;
    private final long[] values;
    private boolean drawn;

    public ChartPress() {
        dataScript = new Script(DATA_LIMIT, true);
        chartScript = new Script(TEXT_LIMIT, false);
        table = new Table();
        request = new Request();
        groups = new Groups();
        scale = new Scale();
        layout = new Layout();
        sheet = new Sheet();
        tickLabel = new Letters(Letters.LONGEST_NUMBER);
        figures = new long[7];
        values = new long[MAX_GROUPS];
        drawn = false;
    }

    public boolean data(long eight) {
        return dataScript.append(eight);
    }

    public boolean text(long eight) {
        return chartScript.append(eight);
    }

    public void wipe(boolean data) {
        if (data) {
            dataScript.clear();
        } else {
            chartScript.clear();
        }
    }

    public boolean canvas(int w, int h) {
        if (!sheet.resize(w, h)) {
            return false;
        }
        drawn = false;
        return true;
    }

    public int draw() throws IllegalArgumentException, UnsupportedOperationException, IllegalStateException, ArithmeticException, IndexOutOfBoundsException {
        table.read(dataScript);
        if (!table.isWellFormed()) {
            throw new IllegalArgumentException("the data are not as said");
        }
        if (!table.isWithinLimits()) {
            throw new UnsupportedOperationException("too many columns, rows or characters in a value");
        }
        if (!request.read(chartScript, table)) {
            throw new IllegalStateException("the chart's text is not as said");
        }
        groups.carryOut(table, request);
        if (groups.count() < 1 || groups.count() > MAX_GROUPS) {
            throw new ArithmeticException("no group, or too many");
        }
        scale.fit(groups, request);
        if (!layout.arrange(groups, scale, sheet, tickLabel)) {
            throw new IndexOutOfBoundsException("the canvas is too small");
        }
        paint();
        keepFigures();
        return groups.count();
    }

    public int pixel(int x, int y) {
        return drawn && sheet.has(x, y) ? sheet.at(x, y) : NONE;
    }

    public long figure(int what) {
        return drawn && what >= 0 && what < figures.length ? figures[what] : NONE;
    }

    public int column(int c) {
        table.read(dataScript);
        return table.isWithinLimits() && c >= 0 && c < table.columns() ? table.typeOf(c) : 0;
    }

    public long value(int i) {
        return drawn && i >= 0 && i < figures[0] && i < values.length ? values[i] : 0;
    }

    /** A later draw may fail after it has read other data, so what is told is kept apart. */
    private void keepFigures() {
        figures[0] = groups.count();
        figures[1] = layout.left();
        figures[2] = scale.first();
        figures[3] = scale.last();
        figures[4] = scale.step();
        figures[5] = scale.ticks();
        figures[6] = layout.labelStride();
        for (int i = 0; i < groups.count() && i < values.length; i++) {
            values[i] = groups.total(i) / FINE;
        }
        drawn = true;
    }

    private void paint() {
        sheet.clear();
        paintAxes();
        paintTickLabels();
        paintGroupLabels();
        if (request.mark() == BAR) {
            paintBars();
        } else if (request.mark() == LINE) {
            paintLines();
        } else {
            paintPoints();
        }
    }

    private void paintAxes() {
        int left = layout.left();
        sheet.fill(left - 1, left - 1, 1, sheet.bottom(), AXIS_COLOUR);
        sheet.fill(left - 1, sheet.right(), sheet.bottom() + 1, sheet.bottom() + 1, AXIS_COLOUR);
        for (int i = 0; i < scale.ticks(); i++) {
            sheet.set(left - 2, tickRow(i), AXIS_COLOUR);
        }
    }

    private void paintTickLabels() {
        int free = sheet.height();
        for (int i = 0; i < scale.ticks(); i++) {
            int upper = tickRow(i) - Letters.HEIGHT / 2;
            int lower = upper + Letters.HEIGHT - 1;
            if (upper >= 0 && lower < free) {
                tickLabel.writeThousandths(scale.tick(i));
                sheet.write(tickLabel, layout.left() - 2 - tickLabel.width(), upper);
                free = upper - 1;
            }
        }
    }

    private void paintGroupLabels() {
        int stride = layout.labelStride();
        for (int i = 0; i < groups.count(); i++) {
            if (stride > 0 && i % stride == 0) {
                sheet.write(groups.label(i), layout.labelStart(i), sheet.labelRow());
            }
        }
    }

    private void paintBars() {
        for (int i = 0; i < groups.count(); i++) {
            long above = 0;
            long below = 0;
            for (int series = 0; series < groups.series(); series++) {
                long amount = groups.segment(i, series);
                int colour = MARK_COLOUR + series % MARK_COLOURS;
                if (amount > 0) {
                    paintSegment(i, above, above + amount, colour);
                    above += amount;
                } else if (amount < 0) {
                    paintSegment(i, below, below + amount, colour);
                    below += amount;
                }
            }
        }
    }

    /** The row of the near end is the one that the segment before has filled already. */
    private void paintSegment(int group, long near, long far, int colour) {
        int nearRow = scale.rowOf(near, sheet.height());
        int farRow = scale.rowOf(far, sheet.height());
        if (near != 0 && nearRow != farRow) {
            nearRow += farRow < nearRow ? -1 : 1;
        }
        int from = layout.bandStart(group);
        int to = layout.bandEnd(group);
        int last = to > from ? to - 1 : to;
        sheet.fill(from, last, Math.min(nearRow, farRow), Math.max(nearRow, farRow), colour);
    }

    private void paintPoints() {
        for (int i = 0; i < groups.count(); i++) {
            int x = layout.middle(i);
            int y = groupRow(i);
            paintInArea(x, y);
            paintInArea(x - 1, y);
            paintInArea(x + 1, y);
            paintInArea(x, y - 1);
            paintInArea(x, y + 1);
        }
    }

    private void paintInArea(int x, int y) {
        if (x >= layout.left() && x <= sheet.right() && y >= 1 && y <= sheet.bottom()) {
            sheet.set(x, y, MARK_COLOUR);
        }
    }

    private void paintLines() {
        sheet.set(layout.middle(0), groupRow(0), MARK_COLOUR);
        for (int i = 1; i < groups.count(); i++) {
            sheet.line(layout.middle(i - 1), groupRow(i - 1), layout.middle(i), groupRow(i), MARK_COLOUR);
        }
    }

    private int tickRow(int i) {
        return scale.rowOf(scale.tick(i) * FINE, sheet.height());
    }

    private int groupRow(int i) {
        return scale.rowOf(groups.total(i), sheet.height());
    }

    /** Characters that calls append, eight at a time. */
    private static final class Script {
        /** Stands for "behind the end": a zero is never appended. */
        static final char END = 0;
        static final char LF = 10;
        static final char CR = 13;

        private final char[] chars;
        private final boolean lineBreaks;
        private int length;

        Script(int limit, boolean lineBreaks) {
            this.chars = new char[limit];
            this.lineBreaks = lineBreaks;
            this.length = 0;
        }

        /** All eight are looked at before the first is taken, since a refusal changes nothing. */
        boolean append(long eight) {
            int added = 0;
            for (int shift = 56; shift >= 0; shift -= 8) {
                int code = byteAt(eight, shift);
                if (code != 0) {
                    if (!allows(code)) {
                        return false;
                    }
                    added++;
                }
            }
            if (length + added > chars.length) {
                return false;
            }
            for (int shift = 56; shift >= 0; shift -= 8) {
                int code = byteAt(eight, shift);
                if (code != 0 && length < chars.length) {
                    chars[length] = (char) code;
                    length++;
                }
            }
            return true;
        }

        private static int byteAt(long eight, int shift) {
            return (int) (eight >>> shift) & 255;
        }

        private boolean allows(int code) {
            return code >= 32 && code <= 126 || lineBreaks && (code == LF || code == CR);
        }

        void clear() {
            length = 0;
        }

        int length() {
            return length;
        }

        char at(int i) {
            return i >= 0 && i < length ? chars[i] : END;
        }
    }

    /** A value of the table, a word of the chart's text, or a tick's label. */
    private static final class Letters {
        static final int HEIGHT = 5;
        static final int ADVANCE = 4;
        static final int LONGEST_NUMBER = 24;
        private static final int[] MONTHS = {31, 28, 31, 30, 31, 30, 31, 31, 30, 31, 30, 31};

        private final char[] chars;
        private int size;

        Letters(int room) {
            chars = new char[room];
            size = 0;
        }

        void clear() {
            size = 0;
        }

        /** What has no room is counted only: nothing that long is ever compared or drawn. */
        void add(char c) {
            if (size < chars.length) {
                chars[size] = c;
            }
            size++;
        }

        void copy(Letters other) {
            clear();
            for (int i = 0; i < other.size; i++) {
                add(other.at(i));
            }
        }

        int size() {
            return size;
        }

        char at(int i) {
            return i >= 0 && i < size && i < chars.length ? chars[i] : Script.END;
        }

        int width() {
            return ADVANCE * size - 1;
        }

        boolean isMissing() {
            return size == 0;
        }

        boolean is(String word) {
            boolean same = size == word.length() && size <= chars.length;
            for (int i = 0; same && i < word.length(); i++) {
                same = at(i) == word.charAt(i);
            }
            return same;
        }

        boolean same(Letters other) {
            boolean same = size == other.size && size <= chars.length && size <= other.chars.length;
            for (int i = 0; same && i < size; i++) {
                same = at(i) == other.at(i);
            }
            return same;
        }

        boolean isNumber() {
            int from = at(0) == '-' ? 1 : 0;
            int whole = digitsFrom(from);
            if (whole < 1 || whole > 6) {
                return false;
            }
            int point = from + whole;
            if (point == size) {
                return true;
            }
            int behind = digitsFrom(point + 1);
            return at(point) == '.' && behind >= 1 && behind <= 3 && point + 1 + behind == size;
        }

        private int digitsFrom(int from) {
            int end = from;
            while (end < size && isDigit(at(end))) {
                end++;
            }
            return end - from;
        }

        private static boolean isDigit(char c) {
            return c >= '0' && c <= '9';
        }

        long thousandths() {
            long amount = 0;
            int missingDecimals = 3;
            boolean behindPoint = false;
            for (int i = 0; i < size; i++) {
                char c = at(i);
                if (isDigit(c)) {
                    amount = amount * 10 + (c - '0');
                    missingDecimals -= behindPoint ? 1 : 0;
                } else if (c == '.') {
                    behindPoint = true;
                }
            }
            for (int i = 0; i < missingDecimals; i++) {
                amount *= 10;
            }
            return at(0) == '-' ? -amount : amount;
        }

        boolean isDate() {
            boolean shaped = size == 10 && digitsFrom(0) == 4 && at(4) == '-' && digitsFrom(5) == 2
                && at(7) == '-' && digitsFrom(8) == 2;
            if (!shaped) {
                return false;
            }
            int dayOfMonth = whole(8, 2);
            return dayOfMonth >= 1 && dayOfMonth <= daysOf(whole(0, 4), whole(5, 2));
        }

        private static int daysOf(int year, int month) {
            if (month < 1 || month > MONTHS.length) {
                return 0;
            }
            boolean leap = year % 4 == 0 && (year % 100 != 0 || year % 400 == 0);
            return MONTHS[month - 1] + (month == 2 && leap ? 1 : 0);
        }

        /** Days are only ever compared, so that it need not be without gaps. */
        long day() {
            return whole(0, 4) * 10000L + whole(5, 2) * 100L + whole(8, 2);
        }

        private int whole(int from, int count) {
            int amount = 0;
            for (int i = from; i < from + count; i++) {
                amount = amount * 10 + (at(i) - '0');
            }
            return amount;
        }

        void writeThousandths(long amount) {
            clear();
            if (amount < 0) {
                add('-');
            }
            long magnitude = Math.abs(amount);
            writeWhole(magnitude / 1000);
            int rest = (int) (magnitude % 1000);
            if (rest != 0) {
                add('.');
            }
            for (int digit = 100; rest != 0 && digit > 0; digit /= 10) {
                add((char) ('0' + rest / digit));
                rest %= digit;
            }
        }

        private void writeWhole(long amount) {
            long digit = 1;
            for (int i = 0; i < 17 && amount / digit >= 10; i++) {
                digit *= 10;
            }
            for (long d = digit; d > 0; d /= 10) {
                add((char) ('0' + amount / d % 10));
            }
        }
    }

    /** The data as columns and rows. */
    private static final class Table {
        private final Letters[] cells;
        /** Takes the values for which a table within the limits has no room. */
        private final Letters spare;
        private final long[] worths;
        private final int[] types;
        private int cellCount;
        private int columns;
        private int records;
        private int fields;
        private int position;
        private boolean ended;
        private boolean wellFormed;
        private boolean withinLimits;

        Table() {
            cells = new Letters[MAX_COLUMNS * (MAX_ROWS + 1)];
            for (int i = 0; i < cells.length; i++) {
                cells[i] = new Letters(MAX_LETTERS);
            }
            spare = new Letters(MAX_LETTERS);
            worths = new long[cells.length];
            types = new int[MAX_COLUMNS];
        }

        /** It reads on behind a limit: data that are not as said come before data that are too much. */
        void read(Script source) {
            forget();
            for (int i = 0; i <= DATA_LIMIT && !ended; i++) {
                readField(source);
                passSeparator(source);
            }
            withinLimits = wellFormed && withinLimits && columns <= MAX_COLUMNS && records <= MAX_ROWS + 1;
            if (withinLimits) {
                for (int c = 0; c < columns; c++) {
                    types[c] = findType(c);
                    weigh(c);
                }
            }
        }

        private void forget() {
            cellCount = 0;
            columns = 0;
            records = 0;
            fields = 0;
            position = 0;
            ended = false;
            wellFormed = true;
            withinLimits = true;
        }

        private void readField(Script source) {
            Letters cell = cellCount < cells.length ? cells[cellCount] : spare;
            cell.clear();
            if (source.at(position) == '"') {
                readQuoted(source, cell);
            } else {
                readPlain(source, cell);
            }
            withinLimits = withinLimits && cell.size() <= MAX_LETTERS;
            cellCount++;
            fields++;
        }

        private void readPlain(Script source, Letters cell) {
            while (position < source.length() && !endsPlain(source.at(position))) {
                cell.add(source.at(position));
                position++;
            }
        }

        private static boolean endsPlain(char c) {
            return c == ',' || c == '"' || c == Script.CR || c == Script.LF;
        }

        private void readQuoted(Script source, Letters cell) {
            boolean open = true;
            position++;
            while (open && position < source.length()) {
                char c = source.at(position);
                position++;
                if (c != '"') {
                    cell.add(c);
                } else if (source.at(position) == '"') {
                    cell.add(c);
                    position++;
                } else {
                    open = false;
                }
            }
            wellFormed = wellFormed && !open;
        }

        private void passSeparator(Script source) {
            int lineBreak = lineBreakSize(source);
            if (position >= source.length()) {
                endRecord();
                ended = true;
            } else if (source.at(position) == ',') {
                position++;
            } else if (lineBreak > 0) {
                endRecord();
                position += lineBreak;
                ended = position >= source.length();
            } else {
                wellFormed = false;
                ended = true;
            }
        }

        private int lineBreakSize(Script source) {
            if (source.at(position) == Script.LF) {
                return 1;
            }
            return source.at(position) == Script.CR && source.at(position + 1) == Script.LF ? 2 : 0;
        }

        private void endRecord() {
            if (records == 0) {
                columns = fields;
            }
            wellFormed = wellFormed && fields == columns;
            records++;
            fields = 0;
        }

        private int findType(int c) {
            boolean numbers = true;
            boolean dates = true;
            for (int row = 0; row < rows(); row++) {
                Letters cell = cell(row, c);
                if (!cell.isMissing()) {
                    numbers = numbers && cell.isNumber();
                    dates = dates && cell.isDate();
                }
            }
            if (numbers) {
                return NUMBER;
            }
            return dates ? DATE : TEXT;
        }

        private void weigh(int c) {
            for (int row = 0; row < rows(); row++) {
                int place = place(row, c);
                if (place != NONE) {
                    worths[place] = worthAs(types[c], cells[place]);
                }
            }
        }

        /** What values of a type are compared by; texts and missing values have nothing of the kind. */
        static long worthAs(int type, Letters letters) {
            if (letters.isMissing() || type == TEXT) {
                return 0;
            }
            return type == NUMBER ? letters.thousandths() : letters.day();
        }

        /** Row -1 is the record of the names. */
        private int place(int row, int c) {
            int place = (row + 1) * columns + c;
            return place >= 0 && place < cells.length ? place : NONE;
        }

        boolean isWellFormed() {
            return wellFormed;
        }

        boolean isWithinLimits() {
            return withinLimits;
        }

        int columns() {
            return columns;
        }

        int rows() {
            return records - 1;
        }

        int typeOf(int c) {
            return c >= 0 && c < types.length ? types[c] : 0;
        }

        Letters cell(int row, int c) {
            int place = place(row, c);
            return place != NONE ? cells[place] : spare;
        }

        long worth(int row, int c) {
            int place = place(row, c);
            return place != NONE ? worths[place] : 0;
        }

        boolean isMissing(int row, int c) {
            return cell(row, c).isMissing();
        }

        boolean sameByType(int row, int other, int c) {
            if (typeOf(c) == TEXT) {
                return cell(row, c).same(cell(other, c));
            }
            return worth(row, c) == worth(other, c);
        }

        int columnNamed(Letters word) {
            for (int c = 0; c < columns && !word.isMissing(); c++) {
                if (cell(-1, c).same(word)) {
                    return c;
                }
            }
            return NONE;
        }
    }

    /** One where of the chart's text. */
    private static final class Condition {
        private final Letters sign;
        private final Letters word;
        private int column;
        private int type;
        private long worth;

        Condition() {
            sign = new Letters(1);
            word = new Letters(MAX_LETTERS);
        }

        void set(int column, Letters sign, Letters word) {
            this.column = column;
            this.sign.copy(sign);
            this.word.copy(word);
        }

        /** False if sign or word are not such as the column's type asks. */
        boolean settle(Table table) {
            type = table.typeOf(column);
            if (!isFitting()) {
                return false;
            }
            worth = Table.worthAs(type, word);
            return true;
        }

        private boolean isFitting() {
            boolean equal = sign.is("=");
            if (!equal && !sign.is("<") && !sign.is(">")) {
                return false;
            }
            if (type == NUMBER) {
                return word.isNumber();
            }
            return type == DATE ? word.isDate() : equal && !word.isMissing();
        }

        boolean holds(Table table, int row) {
            if (table.isMissing(row, column)) {
                return false;
            }
            if (type == TEXT) {
                return table.cell(row, column).same(word);
            }
            long there = table.worth(row, column);
            if (sign.is("=")) {
                return there == worth;
            }
            return sign.is("<") ? there < worth : there > worth;
        }
    }

    /** The chart's text, word for word. */
    private static final class Request {
        /** No text that is as said has more: 6 up to y's column, 8 of two wheres, 6 of the others. */
        private static final int MAX_WORDS = 20;
        private static final int DEFAULT_TICKS = 5;

        private final Letters[] words;
        /** What is taken behind the last word; it is always empty. */
        private final Letters nothing;
        private final Condition[] conditions;
        private int wordCount;
        private int next;
        private int mark;
        private int xColumn;
        private int measure;
        private int yColumn;
        private int conditionCount;
        private int direction;
        private int stackColumn;
        private int tickLimit;

        Request() {
            words = new Letters[MAX_WORDS];
            for (int i = 0; i < words.length; i++) {
                words[i] = new Letters(MAX_LETTERS);
            }
            nothing = new Letters(0);
            conditions = new Condition[2];
            for (int i = 0; i < conditions.length; i++) {
                conditions[i] = new Condition();
            }
        }

        boolean read(Script text, Table table) {
            forget();
            splitWords(text);
            boolean good = wordCount <= MAX_WORDS && readMark() && readX(table) && readY(table);
            for (int i = 0; good && i < MAX_WORDS && next < wordCount; i++) {
                good = readClause(table);
            }
            for (int i = 0; good && i < conditionCount && i < conditions.length; i++) {
                good = conditions[i].settle(table);
            }
            return good && isStackAllowed();
        }

        private void forget() {
            wordCount = 0;
            next = 0;
            mark = NONE;
            xColumn = NONE;
            measure = NONE;
            yColumn = NONE;
            conditionCount = 0;
            direction = 0;
            stackColumn = NONE;
            tickLimit = 0;
        }

        private void splitWords(Script text) {
            boolean inWord = false;
            for (int i = 0; i < text.length(); i++) {
                char c = text.at(i);
                if (c == ' ') {
                    inWord = false;
                } else {
                    if (!inWord) {
                        beginWord();
                    }
                    inWord = true;
                    addToWord(c);
                }
            }
        }

        private void beginWord() {
            if (wordCount < words.length) {
                words[wordCount].clear();
            }
            wordCount++;
        }

        private void addToWord(char c) {
            if (wordCount >= 1 && wordCount <= words.length) {
                words[wordCount - 1].add(c);
            }
        }

        private Letters takeWord() {
            if (next >= wordCount || next >= words.length) {
                return nothing;
            }
            next++;
            return words[next - 1];
        }

        private boolean readMark() {
            Letters word = takeWord();
            mark = word.is("bar") ? BAR : word.is("line") ? LINE : word.is("point") ? POINT : NONE;
            return mark != NONE;
        }

        private boolean readX(Table table) {
            if (!takeWord().is("x")) {
                return false;
            }
            xColumn = table.columnNamed(takeWord());
            return xColumn != NONE;
        }

        private boolean readY(Table table) {
            if (!takeWord().is("y")) {
                return false;
            }
            measure = measureNamed(takeWord());
            if (measure == NONE || measure == COUNT) {
                return measure == COUNT;
            }
            yColumn = table.columnNamed(takeWord());
            return yColumn != NONE && table.typeOf(yColumn) == NUMBER;
        }

        private static int measureNamed(Letters word) {
            if (word.is("count")) {
                return COUNT;
            }
            if (word.is("sum")) {
                return SUM;
            }
            if (word.is("mean")) {
                return MEAN;
            }
            return word.is("min") ? MIN : word.is("max") ? MAX : NONE;
        }

        private boolean readClause(Table table) {
            Letters word = takeWord();
            if (word.is("where")) {
                return readWhere(table);
            }
            if (word.is("order")) {
                return direction == 0 && readOrder();
            }
            if (word.is("stack")) {
                return stackColumn == NONE && readStack(table);
            }
            return word.is("ticks") && tickLimit == 0 && readTicks();
        }

        private boolean readWhere(Table table) {
            int column = table.columnNamed(takeWord());
            if (column == NONE || conditionCount >= conditions.length) {
                return false;
            }
            conditionCount++;
            Letters sign = takeWord();
            conditions[conditionCount - 1].set(column, sign, takeWord());
            return true;
        }

        private boolean readOrder() {
            Letters word = takeWord();
            direction = word.is("up") ? 1 : word.is("down") ? -1 : 0;
            return direction != 0;
        }

        private boolean readStack(Table table) {
            stackColumn = table.columnNamed(takeWord());
            return stackColumn != NONE;
        }

        private boolean readTicks() {
            Letters word = takeWord();
            boolean good = word.size() == 1 && word.at(0) >= '3' && word.at(0) <= '9';
            tickLimit = good ? word.at(0) - '0' : 0;
            return good;
        }

        private boolean isStackAllowed() {
            return stackColumn == NONE || mark == BAR && (measure == COUNT || measure == SUM);
        }

        boolean counts(Table table, int row) {
            boolean counts = !table.isMissing(row, xColumn);
            for (int i = 0; counts && i < conditionCount && i < conditions.length; i++) {
                counts = conditions[i].holds(table, row);
            }
            return counts;
        }

        int mark() {
            return mark;
        }

        int xColumn() {
            return xColumn;
        }

        int measure() {
            return measure;
        }

        int yColumn() {
            return yColumn;
        }

        /** 1 for up, -1 for down, 0 for as they stand. */
        int direction() {
            return direction;
        }

        int stackColumn() {
            return stackColumn;
        }

        int tickLimit() {
            return tickLimit == 0 ? DEFAULT_TICKS : tickLimit;
        }
    }

    /** What the rows of one segment come to. */
    private static final class Tally {
        private int rows;
        private int known;
        private long sum;
        private long least;
        private long greatest;

        void clear() {
            rows = 0;
            known = 0;
            sum = 0;
            least = 0;
            greatest = 0;
        }

        void addRow() {
            rows++;
        }

        void addKnown(long y) {
            least = known == 0 || y < least ? y : least;
            greatest = known == 0 || y > greatest ? y : greatest;
            sum += y;
            known++;
        }

        boolean has(int measure) {
            return measure == COUNT || measure == SUM || known > 0;
        }

        /** In parts of FINE of a thousandth. */
        long amount(int measure) {
            switch (measure) {
                case COUNT:
                    return rows * ONE;
                case SUM:
                    return sum * FINE;
                case MEAN:
                    return known > 0 ? sum * (FINE / known) : 0;
                case MIN:
                    return least * FINE;
                default:
                    return greatest * FINE;
            }
        }
    }

    /** The groups in the order in which they stand, with their segments. */
    private static final class Groups {
        private final int[] groupOfRow;
        private final int[] seriesOfRow;
        /** By the number that a group gets when its first row is met. */
        private final int[] firstRow;
        private final Letters[] labels;
        private final long[] segments;
        private final long[] totals;
        private final long[] keys;
        /** The numbers of the groups that are not left out, in their order. */
        private final int[] order;
        private final Tally tally;
        private int met;
        private int series;
        private int count;

        Groups() {
            groupOfRow = new int[MAX_ROWS];
            seriesOfRow = new int[MAX_ROWS];
            firstRow = new int[MAX_ROWS];
            labels = new Letters[MAX_ROWS];
            for (int i = 0; i < labels.length; i++) {
                labels[i] = new Letters(MAX_LETTERS);
            }
            segments = new long[MAX_ROWS * MAX_ROWS];
            totals = new long[MAX_ROWS];
            keys = new long[MAX_ROWS];
            order = new int[MAX_ROWS];
            tally = new Tally();
        }

        void carryOut(Table table, Request request) {
            int rows = Math.min(table.rows(), MAX_ROWS);
            met = 0;
            series = 0;
            count = 0;
            for (int row = 0; row < rows; row++) {
                groupOfRow[row] = NONE;
                seriesOfRow[row] = NONE;
                if (request.counts(table, row)) {
                    joinGroup(table, request.xColumn(), row);
                    joinSeries(table, request.stackColumn(), row);
                }
            }
            for (int group = 0; group < met && group < MAX_ROWS; group++) {
                addUp(table, request, group, rows);
            }
            putInOrder(table, request);
        }

        private void joinGroup(Table table, int x, int row) {
            for (int group = 0; group < met && group < MAX_ROWS; group++) {
                if (table.sameByType(firstRow[group], row, x)) {
                    groupOfRow[row] = group;
                    return;
                }
            }
            if (met < MAX_ROWS) {
                groupOfRow[row] = met;
                firstRow[met] = row;
                labels[met].copy(table.cell(row, x));
                met++;
            }
        }

        private void joinSeries(Table table, int stack, int row) {
            for (int other = 0; other < row; other++) {
                if (seriesOfRow[other] != NONE && (stack == NONE || table.cell(other, stack).same(table.cell(row, stack)))) {
                    seriesOfRow[row] = seriesOfRow[other];
                    return;
                }
            }
            seriesOfRow[row] = series;
            series++;
        }

        /** A part that a group does not have comes to 0, which neither counts nor is drawn. */
        private void addUp(Table table, Request request, int group, int rows) {
            totals[group] = 0;
            boolean known = false;
            for (int s = 0; s < series && s < MAX_ROWS; s++) {
                tally.clear();
                for (int row = 0; row < rows; row++) {
                    if (groupOfRow[row] == group && seriesOfRow[row] == s) {
                        addToTally(table, request.yColumn(), row);
                    }
                }
                long amount = tally.amount(request.measure());
                segments[group * MAX_ROWS + s] = amount;
                totals[group] += amount;
                known = known || tally.has(request.measure());
            }
            if (known && count < MAX_ROWS) {
                order[count] = group;
                count++;
            }
        }

        private void addToTally(Table table, int y, int row) {
            tally.addRow();
            if (y != NONE && !table.isMissing(row, y)) {
                tally.addKnown(table.worth(row, y));
            }
        }

        private void putInOrder(Table table, Request request) {
            int x = request.xColumn();
            if (table.typeOf(x) != TEXT) {
                for (int group = 0; group < met && group < MAX_ROWS; group++) {
                    keys[group] = table.worth(firstRow[group], x);
                }
                sortByKeys();
            }
            if (request.direction() != 0) {
                for (int group = 0; group < met && group < MAX_ROWS; group++) {
                    keys[group] = request.direction() * totals[group];
                }
                sortByKeys();
            }
        }

        /** By insertion, since groups with equal keys stay as they stood. */
        private void sortByKeys() {
            for (int i = 1; i < count && i < MAX_ROWS; i++) {
                int group = order[i];
                int place = i;
                while (place > 0 && keys[order[place - 1]] > keys[group]) {
                    order[place] = order[place - 1];
                    place--;
                }
                order[place] = group;
            }
        }

        int count() {
            return count;
        }

        int series() {
            return series;
        }

        private int numberOf(int i) {
            return i >= 0 && i < count && i < order.length ? order[i] : 0;
        }

        Letters label(int i) {
            return labels[numberOf(i)];
        }

        long total(int i) {
            return totals[numberOf(i)];
        }

        long segment(int i, int s) {
            return s >= 0 && s < MAX_ROWS ? segments[numberOf(i) * MAX_ROWS + s] : 0;
        }
    }

    /** The ticks, and the row in which a value stands. */
    private static final class Scale {
        private static final int[] FACTORS = {1, 2, 5};
        /** Up to 500 million, far above what twelve numbers of six digits can add up to. */
        private static final int STEPS = 36;

        private long low;
        private long high;
        private long step;
        private long first;
        private long last;

        void fit(Groups groups, Request request) {
            if (request.mark() == BAR) {
                findEndsOfBars(groups);
            } else {
                findEndsOfValues(groups);
            }
            if (low == high) {
                low -= ONE;
                high += ONE;
            }
            findStep(request.tickLimit());
        }

        private void findEndsOfBars(Groups groups) {
            low = 0;
            high = 0;
            for (int i = 0; i < groups.count(); i++) {
                long below = 0;
                long above = 0;
                for (int s = 0; s < groups.series(); s++) {
                    long amount = groups.segment(i, s);
                    below += Math.min(amount, 0);
                    above += Math.max(amount, 0);
                }
                low = Math.min(low, below);
                high = Math.max(high, above);
            }
        }

        private void findEndsOfValues(Groups groups) {
            low = groups.total(0);
            high = low;
            for (int i = 1; i < groups.count(); i++) {
                low = Math.min(low, groups.total(i));
                high = Math.max(high, groups.total(i));
            }
        }

        private void findStep(int tickLimit) {
            long power = 1;
            boolean found = false;
            for (int i = 0; !found && i < STEPS; i++) {
                step = FACTORS[i % FACTORS.length] * power;
                long unit = step * FINE;
                first = Math.floorDiv(low, unit) * step;
                last = -Math.floorDiv(-high, unit) * step;
                found = (last - first) / step + 1 <= tickLimit;
                if (i % FACTORS.length == FACTORS.length - 1) {
                    power *= 10;
                }
            }
        }

        int ticks() {
            return step > 0 ? (int) ((last - first) / step) + 1 : 0;
        }

        long tick(int i) {
            return first + i * step;
        }

        /** Half a span is added before the division so that it rounds halves up. */
        int rowOf(long amount, int height) {
            long span = (last - first) * FINE;
            if (span <= 0) {
                return height - Sheet.BELOW_AREA;
            }
            long risen = 2 * (amount - first * FINE) * (height - Sheet.BELOW_AREA - 1);
            return height - Sheet.BELOW_AREA - (int) Math.floorDiv(risen + span, 2 * span);
        }

        long first() {
            return first;
        }

        long last() {
            return last;
        }

        long step() {
            return step;
        }
    }

    /** Where bands and labels stand. */
    private static final class Layout {
        private final int[] labelStarts;
        private final int[] labelEnds;
        private int left;
        private int areaWidth;
        private int count;
        private int labelStride;

        Layout() {
            labelStarts = new int[MAX_GROUPS];
            labelEnds = new int[MAX_GROUPS];
        }

        /** False if the area is too small or a label does not fit. */
        boolean arrange(Groups groups, Scale scale, Sheet sheet, Letters tickLabel) {
            count = groups.count();
            left = widestTick(scale, tickLabel) + 3;
            areaWidth = sheet.right() - left + 1;
            if (count < 1 || areaWidth < 2 * count) {
                return false;
            }
            boolean fits = true;
            for (int i = 0; i < count; i++) {
                fits = fits && groups.label(i).width() <= sheet.width();
            }
            if (fits) {
                placeLabels(groups, sheet.width());
                findStride();
            }
            return fits;
        }

        private static int widestTick(Scale scale, Letters tickLabel) {
            int widest = 0;
            for (int i = 0; i < scale.ticks(); i++) {
                tickLabel.writeThousandths(scale.tick(i));
                widest = Math.max(widest, tickLabel.width());
            }
            return widest;
        }

        private void placeLabels(Groups groups, int width) {
            for (int i = 0; i < count && i < labelStarts.length; i++) {
                int wide = groups.label(i).width();
                int start = Math.max(0, Math.min(middle(i) - wide / 2, width - wide));
                labelStarts[i] = start;
                labelEnds[i] = start + wide - 1;
            }
        }

        private void findStride() {
            labelStride = 1;
            while (labelStride < count && !isStrideFree(labelStride)) {
                labelStride++;
            }
        }

        private boolean isStrideFree(int stride) {
            boolean free = true;
            for (int i = stride; i < count && i < labelStarts.length; i++) {
                if (stride > 0 && i % stride == 0) {
                    free = free && labelStarts[i] >= labelEnds[i - stride] + 2;
                }
            }
            return free;
        }

        int left() {
            return left;
        }

        int bandStart(int i) {
            return count > 0 ? left + i * areaWidth / count : left;
        }

        int bandEnd(int i) {
            return bandStart(i + 1) - 1;
        }

        int middle(int i) {
            return (bandStart(i) + bandEnd(i)) / 2;
        }

        int labelStart(int i) {
            return i >= 0 && i < labelStarts.length ? labelStarts[i] : 0;
        }

        int labelStride() {
            return labelStride;
        }
    }

    /** The canvas and its pixels. */
    private static final class Sheet {
        static final int BELOW_AREA = 9;
        private static final int MIN_WIDTH = 20;
        private static final int MAX_WIDTH = 96;
        private static final int MIN_HEIGHT = 18;
        private static final int MAX_HEIGHT = 64;
        private static final int GLYPH_WIDTH = 3;

        private final byte[] pixels;
        private int width;
        private int height;

        Sheet() {
            pixels = new byte[MAX_WIDTH * MAX_HEIGHT];
            width = 48;
            height = 32;
        }

        boolean resize(int w, int h) {
            if (w < MIN_WIDTH || w > MAX_WIDTH || h < MIN_HEIGHT || h > MAX_HEIGHT) {
                return false;
            }
            width = w;
            height = h;
            return true;
        }

        int width() {
            return width;
        }

        int height() {
            return height;
        }

        /** The area's last column. */
        int right() {
            return width - 2;
        }

        /** The area's lowest row. */
        int bottom() {
            return height - BELOW_AREA;
        }

        int labelRow() {
            return height - 6;
        }

        boolean has(int x, int y) {
            return x >= 0 && x < width && y >= 0 && y < height;
        }

        int at(int x, int y) {
            return has(x, y) ? pixels[y * MAX_WIDTH + x] : NONE;
        }

        void clear() {
            Arrays.fill(pixels, (byte) 0);
        }

        void set(int x, int y, int colour) {
            if (has(x, y)) {
                pixels[y * MAX_WIDTH + x] = (byte) colour;
            }
        }

        void fill(int fromX, int toX, int fromY, int toY, int colour) {
            for (int y = fromY; y <= toY; y++) {
                for (int x = fromX; x <= toX; x++) {
                    set(x, y, colour);
                }
            }
        }

        void write(Letters letters, int x, int y) {
            for (int i = 0; i < letters.size(); i++) {
                writeGlyph(letters.at(i), x + Letters.ADVANCE * i, y);
            }
        }

        private void writeGlyph(char c, int x, int y) {
            int bits = (c * 7919) >> 3;
            for (int j = 0; j < Letters.HEIGHT; j++) {
                for (int i = 0; i < GLYPH_WIDTH; i++) {
                    if ((bits >> (GLYPH_WIDTH * j + i) & 1) == 1) {
                        set(x + i, y + j, LETTER_COLOUR);
                    }
                }
            }
        }

        /** From left to right; each pass takes a step at least, so dx - dy passes are enough. */
        void line(int x1, int y1, int x2, int y2, int colour) {
            int dx = Math.abs(x2 - x1);
            int dy = -Math.abs(y2 - y1);
            int down = y2 >= y1 ? 1 : -1;
            int e = dx + dy;
            int x = x1;
            int y = y1;
            set(x, y, colour);
            for (int i = 0; i < dx - dy && (x != x2 || y != y2); i++) {
                int twice = 2 * e;
                if (twice >= dy) {
                    e += dy;
                    x++;
                }
                if (twice <= dx) {
                    e += dx;
                    y += down;
                }
                set(x, y, colour);
            }
        }
    }
}
