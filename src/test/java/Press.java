import java.util.ArrayList;
import java.util.List;
import java.util.function.Function;

/**
 * A ChartPress for tests that look at more than 512 answers. The document says nothing of what an object does behind
 * its 512th call, so a new one takes its place there: it gets all calls again but those that only look at what was
 * drawn.
 */
final class Press {
    private static final int CALLS = 512;

    private final List<Function<ChartPress, Object>> kept = new ArrayList<>();
    private ChartPress press = new ChartPress();
    private int calls = 0;

    boolean data(long eight) {
        return (boolean) keep(press -> press.data(eight));
    }

    boolean text(long eight) {
        return (boolean) keep(press -> press.text(eight));
    }

    void wipe(boolean data) {
        keep(press -> {
            press.wipe(data);
            return null;
        });
    }

    boolean canvas(int w, int h) {
        return (boolean) keep(press -> press.canvas(w, h));
    }

    int draw() {
        return (int) keep(ChartPress::draw);
    }

    int pixel(int x, int y) {
        return (int) make(press -> press.pixel(x, y));
    }

    long figure(int what) {
        return (long) make(press -> press.figure(what));
    }

    /** It is kept, since it reads the data: a test can ask whether it leaves all else alone. */
    int column(int c) {
        return (int) keep(press -> press.column(c));
    }

    long value(int i) {
        return (long) make(press -> press.value(i));
    }

    private Object keep(Function<ChartPress, Object> call) {
        try {
            return make(call);
        } finally {
            kept.add(call);
        }
    }

    private Object make(Function<ChartPress, Object> call) {
        if (calls == CALLS) {
            beginAgain();
        }
        calls++;
        return call.apply(press);
    }

    private void beginAgain() {
        if (kept.size() >= CALLS) {
            throw new AssertionError("a test makes more calls than an object is used for");
        }
        press = new ChartPress();
        calls = kept.size();
        for (Function<ChartPress, Object> call : kept) {
            again(call);
        }
    }

    private void again(Function<ChartPress, Object> call) {
        try {
            call.apply(press);
        } catch (RuntimeException e) {
            // The test has been told of it the first time.
        }
    }
}
