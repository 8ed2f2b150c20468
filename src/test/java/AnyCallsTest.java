import java.util.Random;

/** Any calls in any order: nothing but draw's own exceptions is thrown, and the same calls give the same answers. */
public final class AnyCallsTest {
    private static final int RUNS = 200;
    private static final int CALLS = 512;
    private static final String[] DATA = {
        "a,b,c\n", "1,2,x\n", "2,-3,y\n", "3,,x\n", "a\n", "\"q\"\"\"", ",", "\n", "\r\n", "\"", "999999.999", "2024-02-29,1,z\n"};
    private static final String[] TEXT = {
        "bar ", "line ", "point ", "bar x a ", "y count ", "y sum b ", "y mean b ", "stack c ", "order up ", "ticks 9 ",
        "where a > ", "1 ", "where c = x ", "where "};
    private static final int[] NUMBERS = {-1, 0, 1, 2, 5, 7, 8, 17, 18, 20, 31, 48, 64, 96, 97, Integer.MAX_VALUE, Integer.MIN_VALUE};

    public static void main(String[] args) {
        for (int run = 0; run < RUNS; run++) {
            Check.due("run " + run + ", made twice", answers(run), answers(run));
        }
        Check.end();
    }

    private static String answers(int run) {
        Random random = new Random(run);
        ChartPress press = new ChartPress();
        StringBuilder all = new StringBuilder();
        for (int call = 0; call < CALLS; call++) {
            all.append(anyCall(press, random)).append(' ');
        }
        return all.toString();
    }

    private static String anyCall(ChartPress press, Random random) {
        int number = NUMBERS[random.nextInt(NUMBERS.length)];
        int other = NUMBERS[random.nextInt(NUMBERS.length)];
        switch (random.nextInt(12)) {
            case 0: case 1:
                return feed(press, true, DATA[random.nextInt(DATA.length)]);
            case 2: case 3:
                return feed(press, false, TEXT[random.nextInt(TEXT.length)]);
            case 4:
                press.wipe(random.nextBoolean());
                return "-";
            case 5:
                return String.valueOf(press.canvas(number, other));
            case 6:
                return String.valueOf(press.pixel(number, other));
            case 7:
                return String.valueOf(press.figure(number));
            case 8:
                return String.valueOf(press.column(number));
            case 9:
                return String.valueOf(press.value(number));
            case 10:
                return String.valueOf(press.data(random.nextLong())) + press.text(random.nextLong());
            default:
                return drawnOrThrown(press);
        }
    }

    private static String feed(ChartPress press, boolean data, String characters) {
        StringBuilder answers = new StringBuilder();
        for (int i = 0; i < characters.length(); i++) {
            answers.append(data ? press.data(characters.charAt(i)) : press.text(characters.charAt(i)));
        }
        return answers.toString();
    }

    private static String drawnOrThrown(ChartPress press) {
        String answer = Check.draw(press);
        boolean asSaid = answer.length() == 1 || answer.equals("IllegalArgumentException")
            || answer.equals("UnsupportedOperationException") || answer.equals("IllegalStateException")
            || answer.equals("ArithmeticException") || answer.equals("IndexOutOfBoundsException");
        Check.due("draw answers or throws as said, not " + answer, asSaid, true);
        return answer;
    }
}
