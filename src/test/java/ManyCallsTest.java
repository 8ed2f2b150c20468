/**
 * "An object is used for at most 512 calls after it has been made": up to the last of them it answers as said. Here
 * objects of ChartPress are used themselves, since a Press would take another one.
 */
public final class ManyCallsTest {
    private static final int CALLS = 512;

    private final ChartPress press = new ChartPress();
    private int calls = 0;

    public static void main(String[] args) {
        new ManyCallsTest().drawnAgainAndAgain();
        new ManyCallsTest().refusedAgainAndAgain();
        new ManyCallsTest().oneCharacterAtATime();
        new ManyCallsTest().wipedAndFilledAgain();
        new ManyCallsTest().anotherCanvasEachTime();
        new ManyCallsTest().lookedAt();
        Check.end();
    }

    private void drawnAgainAndAgain() {
        fill("a,v\n1,5\n2,6\n", "bar x a y sum v");
        while (calls < CALLS - 2) {
            draw("2");
        }
        due("value(1)", press.value(1), 6000);
        due("figure(3)", press.figure(3), 6000);
    }

    /** What is refused is no more after many calls than after one. */
    private void refusedAgainAndAgain() {
        fill("a\n1\n", "bar x a y coun");
        while (calls < CALLS - 12) {
            due("data of what is refused", press.data(0x6161616161616101L), false);
            due("text of what is refused", press.text(0x610a), false);
            due("canvas of what is refused", press.canvas(97, 32), false);
            draw(Check.BAD_TEXT);
        }
        due("text", press.text('t'), true);
        while (calls < CALLS - 1) {
            draw("1");
        }
        due("pixel(47, 31)", press.pixel(47, 31), 0);
    }

    /** 400 characters of data and 16 of text, a call for each. */
    private void oneCharacterAtATime() {
        String data = "a,b,c,d,efghijk\n" + "999999.999,-99999.999,1,2,2.500\n".repeat(12);
        Check.due("characters of data", data.length(), 400);
        for (int i = 0; i < data.length(); i++) {
            due("data of one character", press.data(data.charAt(i)), true);
        }
        String text = "line x c y min a";
        for (int i = 0; i < text.length(); i++) {
            due("text of one character", press.text(text.charAt(i)), true);
        }
        due("canvas", press.canvas(96, 64), true);
        draw("1");
        while (calls < CALLS - 1) {
            due("column(4)", press.column(4), 1);
        }
        due("value(0)", press.value(0), 999999999);
    }

    private void wipedAndFilledAgain() {
        for (int i = 1; calls < CALLS - 10; i++) {
            press.wipe(true);
            press.wipe(false);
            calls += 2;
            fill("a\n" + i + "\n", "bar x a y max a");
            draw("1");
            due("value(0) of chart " + i, press.value(0), 1000 * i);
        }
    }

    private void anotherCanvasEachTime() {
        fill("a\n1\n", "point x a y count");
        for (int i = 0; calls < CALLS - 5; i++) {
            int w = 20 + i % 77;
            int h = 18 + i % 47;
            due("canvas(" + w + ", " + h + ")", press.canvas(w, h), true);
            due("pixel(0, 0), when it is gone", press.pixel(0, 0), -1);
            draw("1");
            due("the last pixel", press.pixel(w - 1, h - 1), 0);
            due("behind the last pixel", press.pixel(w, h - 1), -1);
        }
    }

    private void lookedAt() {
        fill("a,v\n1,5\n2,6\n", "bar x a y sum v");
        draw("2");
        while (calls < CALLS - 4) {
            due("figure(0)", press.figure(0), 2);
            due("value(0)", press.value(0), 5000);
            due("column(1)", press.column(1), 1);
            due("pixel(48, 0)", press.pixel(48, 0), -1);
        }
        while (calls < CALLS) {
            draw("2");
        }
    }

    private void fill(String data, String text) {
        for (int i = 0; i < data.length(); i += 8) {
            due("data", press.data(Check.eight(data.substring(i, Math.min(i + 8, data.length())))), true);
        }
        for (int i = 0; i < text.length(); i += 8) {
            due("text", press.text(Check.eight(text.substring(i, Math.min(i + 8, text.length())))), true);
        }
    }

    private void draw(String want) {
        String answer;
        try {
            answer = Integer.toString(press.draw());
        } catch (RuntimeException e) {
            answer = e.getClass().getSimpleName();
        }
        calls++;
        Check.due("draw, call " + calls, answer, want);
    }

    private void due(String what, boolean got, boolean want) {
        due(what, got ? 1 : 0, want ? 1 : 0);
    }

    /** Each is one call; that there are no more of them than said is looked at, too. */
    private void due(String what, long got, long want) {
        calls++;
        Check.due(what + ", call " + calls, got, want);
        Check.due("calls of one object are at most " + CALLS, calls <= CALLS, true);
    }
}
