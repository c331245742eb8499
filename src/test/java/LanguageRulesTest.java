import java.io.IOException;
import java.nio.file.Files;
import java.nio.file.Path;
import java.util.regex.Matcher;
import java.util.regex.Pattern;

/** Words that LANGUAGE.md, or the document's "by whole numbers alone", keeps out of the class. */
final class LanguageRulesTest {
    private static final String[] KEPT_OUT = {
        "\\bimport (?!java\\.util\\.(ArrayList|List|Iterator|Arrays|NoSuchElementException);)", "\\bpackage\\b",
        "\\b(double|float|Double|Float|BigInteger|BigDecimal|StrictMath)\\b", "\\b(finally|assert|synchronized|native)\\b",
        "(?m)^(?!\\s*(case|default)\\b).*->", "::", "\\bstatic\\s*\\{", "\\w+Exact\\b", "\\b(hashCode|getMessage)\\b",
        "\\bstatic (?!final\\b)[\\w\\[\\]]+ \\w+ ?[=;]", "\\bSystem\\.(?!arraycopy\\b)",
        "\\bcatch \\(\\s*(Exception|Throwable|Error|\\w*(Array\\w*|NullPointer|ClassCast|NegativeArraySize)Exception)\\b"
    };

    public static void main(String[] args) throws IOException {
        String source = Files.readString(Path.of("src/main/java/DoubleBits.java"));
        String code = source.replaceAll("(?s)/\\*.*?\\*/", "").replaceAll("//[^\n]*", "");
        for (String pattern : KEPT_OUT) {
            Matcher matcher = Pattern.compile(pattern).matcher(code);
            Check.isTrue("no " + pattern + " in the class", !matcher.find());
        }
        Check.end();
    }
}
