/** Promise 1: a new object has no text, and nothing is written. */
final class Promise01NewObjectTest {
    public static void main(String[] args) {
        Check.same("the first unit put into a new object", new DoubleBits().put('1', 1), 1);
        Check.same("read() of a new object", new DoubleBits().read(), 0);
        for (int k : new int[] {0, 1, -1, Integer.MAX_VALUE, Integer.MIN_VALUE}) {
            Check.throwsJust("unit(" + k + ") of a new object", IndexOutOfBoundsException.class,
                    () -> new DoubleBits().unit(k));
        }
        objectsAreApart();
        theFaceIsTheDocuments();
        Check.end();
    }

    private static void objectsAreApart() {
        DoubleBits one = new DoubleBits();
        DoubleBits other = new DoubleBits();
        Check.putText(one, "12");
        one.write(Check.bits(7));
        Check.same("read() of the other object", other.read(), 0);
        Check.throwsJust("unit(0) of the other object", IndexOutOfBoundsException.class, () -> other.unit(0));
        Check.same("read() of the one object", one.read(), Check.bits(12));
    }

    private static void theFaceIsTheDocuments() {
        StringBuilder names = new StringBuilder();
        java.util.TreeSet<String> sorted = new java.util.TreeSet<>();
        for (java.lang.reflect.Method method : DoubleBits.class.getDeclaredMethods()) {
            if (!java.lang.reflect.Modifier.isPrivate(method.getModifiers())) {
                sorted.add(method.getName());
            }
        }
        for (String name : sorted) {
            names.append(name).append(' ');
        }
        Check.same("the methods of the face", names.toString(),
                "compare form of put radix read reckon turn unit whole write ");
        Check.same("how many constructors", DoubleBits.class.getDeclaredConstructors().length, 1);
        for (java.lang.reflect.Field field : DoubleBits.class.getDeclaredFields()) {
            Check.isTrue("field " + field.getName() + " is private",
                    java.lang.reflect.Modifier.isPrivate(field.getModifiers()));
        }
    }
}
