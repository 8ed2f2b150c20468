import java.lang.reflect.Constructor;
import java.lang.reflect.Field;
import java.lang.reflect.Method;
import java.lang.reflect.Modifier;
import java.util.Arrays;
import java.util.TreeSet;

/** The public face is the document's, and nothing else can be seen from outside. */
public final class FaceTest {
    public static void main(String[] args) {
        int modifiers = ChartPress.class.getModifiers();
        Check.due("the class is public", Modifier.isPublic(modifiers), true);
        Check.due("the class is final", Modifier.isFinal(modifiers), true);
        Constructor<?>[] constructors = ChartPress.class.getDeclaredConstructors();
        Check.due("constructors", constructors.length, 1);
        Check.due("the constructor's parameters", constructors[0].getParameterCount(), 0);
        Check.due("the constructor is public", Modifier.isPublic(constructors[0].getModifiers()), true);
        for (Field field : ChartPress.class.getDeclaredFields()) {
            Check.due(field + " is private", Modifier.isPrivate(field.getModifiers()), true);
        }
        methods();
        Check.end();
    }

    private static void methods() {
        TreeSet<String> seen = new TreeSet<>();
        for (Method method : ChartPress.class.getDeclaredMethods()) {
            if (!Modifier.isPrivate(method.getModifiers())) {
                seen.add(method.toString());
            }
        }
        TreeSet<String> due = new TreeSet<>(Arrays.asList(
            "public boolean ChartPress.data(long)",
            "public boolean ChartPress.text(long)",
            "public void ChartPress.wipe(boolean)",
            "public boolean ChartPress.canvas(int,int)",
            "public int ChartPress.draw() throws java.lang.IllegalArgumentException,"
                + "java.lang.UnsupportedOperationException,java.lang.IllegalStateException,"
                + "java.lang.ArithmeticException,java.lang.IndexOutOfBoundsException",
            "public int ChartPress.pixel(int,int)",
            "public long ChartPress.figure(int)",
            "public int ChartPress.column(int)",
            "public long ChartPress.value(int)"));
        Check.due("methods", seen.toString(), due.toString());
    }
}
