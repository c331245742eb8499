import java.lang.reflect.Constructor;
import java.lang.reflect.Field;
import java.lang.reflect.Method;
import java.lang.reflect.Modifier;
import java.util.List;
import java.util.TreeSet;

/** Promise 1: a new object has no text, and nothing is written. */
final class Promise01NewObjectTest {
    private static final String[] FACE = {
        "public int put(long, int) throws IllegalArgumentException, IllegalStateException",
        "public long read()",
        "public long reckon(long, long, int) throws IllegalArgumentException",
        "public long turn(long, int) throws IllegalArgumentException",
        "public int compare(long, long)",
        "public long whole(long, int) throws IllegalArgumentException",
        "public long of(long)",
        "public int write(long)",
        "public int radix(long, int) throws IllegalArgumentException",
        "public int form(long, int, int) throws IllegalArgumentException",
        "public int unit(int) throws IndexOutOfBoundsException"
    };

    public static void main(String[] args) {
        noText();
        nothingWritten();
        objectsAreApart();
        theFaceIsTheDocuments();
        Check.end();
    }

    private static void noText() {
        Check.sentence("No text");
        Check.same("the first unit put into a new object", new Subject().put('1', 1), 1);
        Check.same("read() of a new object", new Subject().read(), 0);
    }

    private static void nothingWritten() {
        Check.sentence("nothing written");
        for (int k : new int[] {0, 1, -1, Integer.MAX_VALUE, Integer.MIN_VALUE}) {
            Check.throwsJust("unit(" + k + ") of a new object", IndexOutOfBoundsException.class,
                    () -> new Subject().unit(k));
        }
    }

    private static void objectsAreApart() {
        Check.sentence("an object that is made while another one is in use");
        Subject one = new Subject();
        Subject other = new Subject();
        Check.putText(one, "12");
        one.write(Check.bits(7));
        Subject third = new Subject();
        for (Subject x : new Subject[] {other, third}) {
            Check.same("read()", x.read(), 0);
            Check.throwsJust("unit(0)", IndexOutOfBoundsException.class, () -> x.unit(0));
        }
        Check.same("read() of the one in use", one.read(), Check.bits(12));
        Check.same("unit(0) of the one in use", one.unit(0), '7');
    }

    private static void theFaceIsTheDocuments() {
        Check.sentence("The public face");
        Check.isTrue("public and final", Modifier.isPublic(DoubleBits.class.getModifiers())
                && Modifier.isFinal(DoubleBits.class.getModifiers()));
        TreeSet<String> methods = new TreeSet<>();
        for (Method method : DoubleBits.class.getDeclaredMethods()) {
            if (!Modifier.isPrivate(method.getModifiers()) && !method.isSynthetic()) {
                methods.add(told(method));
            }
        }
        Check.same("the methods", String.join("\n", methods), String.join("\n", new TreeSet<>(List.of(FACE))));
        Check.same("the constructors that can be seen", DoubleBits.class.getConstructors().length, 1);
        Check.same("all constructors", DoubleBits.class.getDeclaredConstructors().length, 1);
        for (Constructor<?> constructor : DoubleBits.class.getConstructors()) {
            Check.same("a constructor's parameters", constructor.getParameterCount(), 0);
        }
        for (Field field : DoubleBits.class.getDeclaredFields()) {
            Check.isTrue("field " + field.getName() + " is private",
                    Modifier.isPrivate(field.getModifiers()) || field.isSynthetic());
        }
    }

    /** As the document writes it. */
    private static String told(Method method) {
        return method.toString().replace("DoubleBits.", "").replace("java.lang.", "").replace(",", ", ");
    }
}
