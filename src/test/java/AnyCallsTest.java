import java.util.Random;

/** Any calls in any order: nothing but draw's own exceptions is thrown, and the same calls give the same answers. */
public final class AnyCallsTest {
    private static final int RUNS = 400;
    /** "An object is used for at most 512 calls after it has been made" */
    private static final int CALLS = 512;
    private static final String[] DATA = {
        "a,b,c\n", "1,2,x\n", "2,-3,y\n", "3,,x\n", "a\n", "\"q\"\"\"", ",", "\n", "\r\n", "\"", "999999.999", "2024-02-29,1,z\n"};
    private static final String[] TEXT = {
        "bar ", "line ", "point ", "bar x a ", "y count ", "y sum b ", "y mean b ", "stack c ", "order up ", "ticks 9 ",
        "where a > ", "1 ", "where c = x ", "where "};
    private static final int[] NUMBERS = {-1, 0, 1, 2, 5, 7, 8, 17, 18, 20, 31, 48, 64, 96, 97, Integer.MAX_VALUE, Integer.MIN_VALUE};

    private final ChartPress press = new ChartPress();
    private final StringBuilder answers = new StringBuilder();
    private final Random random;
    private int calls = 0;

    private AnyCallsTest(int run) {
        random = new Random(run);
    }

    public static void main(String[] args) {
        for (int run = 0; run < RUNS; run++) {
            Check.due("run " + run + ", made twice", new AnyCallsTest(run).answers(), new AnyCallsTest(run).answers());
        }
        Check.end();
    }

    /** No turn makes more than two calls. */
    private String answers() {
        while (calls + 2 <= CALLS) {
            turn();
        }
        return answers.toString();
    }

    private void turn() {
        int number = any(NUMBERS);
        switch (random.nextInt(12)) {
            case 0: case 1:
                feed(true, DATA[random.nextInt(DATA.length)]);
                break;
            case 2: case 3:
                feed(false, TEXT[random.nextInt(TEXT.length)]);
                break;
            case 4:
                press.wipe(random.nextBoolean());
                note("-");
                break;
            case 5:
                note(press.canvas(number, any(NUMBERS)));
                break;
            case 6:
                note(press.pixel(number, any(NUMBERS)));
                break;
            case 7:
                note(press.figure(number));
                break;
            case 8:
                note(press.column(number));
                break;
            case 9:
                note(press.value(number));
                break;
            case 10:
                note(press.data(random.nextLong()));
                note(press.text(random.nextLong()));
                break;
            default:
                draw();
        }
    }

    private int any(int[] numbers) {
        return numbers[random.nextInt(numbers.length)];
    }

    private void note(Object answer) {
        answers.append(answer).append(' ');
        calls++;
    }

    private void feed(boolean data, String characters) {
        for (int i = 0; i < characters.length(); i += 8) {
            long eight = Check.eight(characters.substring(i, Math.min(i + 8, characters.length())));
            note(data ? press.data(eight) : press.text(eight));
        }
    }

    private void draw() {
        String answer;
        try {
            answer = Integer.toString(press.draw());
        } catch (RuntimeException e) {
            answer = e.getClass().getSimpleName();
        }
        boolean asSaid = answer.length() == 1 || answer.equals(Check.BAD_DATA) || answer.equals(Check.TOO_MUCH)
            || answer.equals(Check.BAD_TEXT) || answer.equals(Check.BAD_COUNT) || answer.equals(Check.NO_ROOM);
        Check.due("draw answers or throws as said, not " + answer, asSaid, true);
        note(answer);
    }
}
