import java.io.IOException;
import java.nio.file.Files;
import java.nio.file.Path;
import java.util.regex.Matcher;
import java.util.regex.Pattern;

/** Words that LANGUAGE.md, or the document's "by whole numbers alone", keeps out of the class. */
final class LanguageRulesTest {
    private static final String[] KEPT_OUT = {
        "\\bimport\\b", "\\bpackage\\b", "\\bdouble\\b", "\\bfloat\\b", "\\b(Double|Float|BigInteger|BigDecimal)\\b",
        "\\b(try|catch|finally|assert|synchronized|native|var)\\b", "->", "::", "\\bstatic\\s*\\{", "\\w+Exact\\b",
        "\\bstatic (?!final\\b)[\\w\\[\\]]+ \\w+ ?[=;]", "\\b(hashCode|toString|getMessage)\\b", "\\bSystem\\.(?!arraycopy)"
    };

    public static void main(String[] args) throws IOException {
        String source = Files.readString(Path.of("src/main/java/DoubleBits.java"));
        String code = source.replaceAll("(?s)/\\*.*?\\*/", "").replaceAll("//[^\n]*", "");
        for (String pattern : KEPT_OUT) {
            Matcher matcher = Pattern.compile(pattern).matcher(code);
            Check.isTrue("no " + pattern + " in the class", !matcher.find());
        }
        Check.end();
    }
}
