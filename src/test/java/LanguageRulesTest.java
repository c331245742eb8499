import java.io.IOException;
import java.lang.reflect.Method;
import java.lang.reflect.Modifier;
import java.nio.file.Files;
import java.nio.file.Path;
import java.util.HashSet;
import java.util.Set;
import java.util.regex.Matcher;
import java.util.regex.Pattern;

/** What can be seen of LANGUAGE.md, and of the document's "by whole numbers alone", in the class's words and members. */
final class LanguageRulesTest {
    private static final int MOST_CLASSES = 12;
    private static final int MOST_PARAMETERS = 7;
    private static final int MOST_FIELDS = 20;
    private static final int MOST_LINES = 60;
    private static final String[] KEPT_OUT = {
        "\\bimport (?!java\\.util\\.(ArrayList|List|Iterator|Arrays|NoSuchElementException);)", "\\bpackage\\b",
        "\\b(double|float|Double|Float|BigInteger|BigDecimal|StrictMath)\\b", "\\b(finally|assert|synchronized|native)\\b",
        "(?m)^(?!\\s*(case|default)\\b).*->", "::", "\\bstatic\\s*\\{", "\\w+Exact\\b", "\\b(hashCode|getMessage)\\b",
        "\\bstatic (?!final\\b)[\\w\\[\\]]+ \\w+ ?[=;]", "\\bSystem\\.(?!arraycopy\\b)",
        "\\bcatch \\(\\s*(Exception|Throwable|Error|\\w*(Array\\w*|NullPointer|ClassCast|NegativeArraySize)Exception)\\b"
    };

    public static void main(String[] args) throws IOException {
        String source = Files.readString(Path.of("src/main/java/DoubleBits.java"));
        String code = source.replaceAll("(?s)/\\*.*?\\*/", "").replaceAll("//[^\n]*", "");
        wordsKeptOut(code);
        methodsStayShort(code);
        classesInside();
        namesOfTheFaceAreItsOwn();
        constructorsHandOutNothing(code);
        Check.end();
    }

    private static void wordsKeptOut(String code) {
        Check.sentence("LANGUAGE.md");
        for (String pattern : KEPT_OUT) {
            Matcher matcher = Pattern.compile(pattern).matcher(code);
            Check.isTrue("no " + pattern + " in the class", !matcher.find());
        }
    }

    /** From a line that ends with ") {" or "throws .. {" to the brace of the same depth, if it is a method's. */
    private static void methodsStayShort(String code) {
        Check.sentence("Rule 11: Methods stay short (some sixty lines)");
        Matcher method = Pattern.compile("(?m)^( +)(?:(?:public|private|static) )*[\\w\\[\\]]+ \\w+\\([^;{]*\\{$").matcher(code);
        int found = 0;
        while (method.find()) {
            int end = code.indexOf("\n" + method.group(1) + "}", method.end());
            long lines = code.substring(method.start(), Math.max(end, method.end())).lines().count();
            Check.isTrue(method.group().strip() + " has few lines (" + lines + ")", lines <= MOST_LINES);
            found++;
        }
        Check.isTrue("methods are found", found > 11);
    }

    private static void classesInside() {
        Check.sentence("Rules 1 and 11: classes inside are static and not public; their number, fields and parameters");
        Class<?>[] inside = DoubleBits.class.getDeclaredClasses();
        Check.isTrue("at most some twelve classes", inside.length + 1 <= MOST_CLASSES);
        for (Class<?> one : inside) {
            int modifiers = one.getModifiers();
            Check.isTrue(one.getName() + " is static and not public or protected", Modifier.isStatic(modifiers)
                    && !Modifier.isPublic(modifiers) && !Modifier.isProtected(modifiers));
            Check.isTrue(one.getName() + " has few fields", java.util.Arrays.stream(one.getDeclaredFields())
                    .filter(field -> !Modifier.isStatic(field.getModifiers())).count() <= MOST_FIELDS);
            for (Method method : one.getDeclaredMethods()) {
                Check.isTrue(method + " has few parameters", method.getParameterCount() <= MOST_PARAMETERS);
            }
        }
    }

    private static void namesOfTheFaceAreItsOwn() {
        Check.sentence("Rule 1: No private method bears the name of a public one");
        Set<String> face = new HashSet<>();
        for (Method method : DoubleBits.class.getMethods()) {
            face.add(method.getName());
        }
        for (Method method : DoubleBits.class.getDeclaredMethods()) {
            Check.isTrue(method + " is of the face or has a name of its own",
                    Modifier.isPublic(method.getModifiers()) || !face.contains(method.getName()));
        }
        for (Class<?> one : DoubleBits.class.getDeclaredClasses()) {
            for (Method method : one.getDeclaredMethods()) {
                Check.isTrue(method + " has a name of its own", !face.contains(method.getName()));
            }
        }
    }

    /** A line of a constructor sets a field to a constant, or to a row or an object that takes nothing of this one. */
    private static void constructorsHandOutNothing(String code) {
        Check.sentence("Rule 12: A constructor .. hands out nothing of the object that it makes");
        Matcher made = Pattern.compile("(?m)^ +(?:public )?([A-Z]\\w+)\\(([^)]*)\\) \\{\n([^}]*)\\}").matcher(code);
        int found = 0;
        while (made.find()) {
            Check.same("what the constructor of " + made.group(1) + " takes", made.group(2), "");
            for (String line : made.group(3).strip().split("\n")) {
                Check.isTrue("'" + line.strip() + "' in the constructor of " + made.group(1) + " hands out nothing",
                        line.strip().matches("\\w+ = (\\d+|new (int|long|char)\\[[A-Z_]+\\]|new [A-Z]\\w+\\(\\));"));
            }
            found++;
        }
        Check.isTrue("constructors are found", found > 1);
    }
}
