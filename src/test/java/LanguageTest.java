import java.io.IOException;
import java.nio.file.Files;
import java.nio.file.Path;
import java.util.regex.Matcher;
import java.util.regex.Pattern;

/** The rules of LANGUAGE.md that can be seen on the text of the class; .ci/run starts this at the root. */
public final class LanguageTest {
    private static final String[] RULED_OUT = {
        "package", "import", "class \\w+[^{]*\\{(?s:.*)\\bclass", "interface", "enum", "record",
        "float", "double", "String", "Math", "Integer", "Long", "System", "Arrays", "Object", "var",
        "null", "throw", "throws", "try", "catch", "finally", "synchronized", "assert", "instanceof",
        "protected", "native", "getClass", "equals", "hashCode", "toString", "clone"};
    private static final Pattern ARRAY_FIELD =
            Pattern.compile("(?m)^    private final \\w+\\[\\] \\w+ = new \\w+\\[[A-Z_0-9]+\\];$");

    public static void main(String[] args) throws IOException {
        String text = Files.readString(Path.of("src/main/java/GotoColour.java"));
        String code = text.replaceAll("(?s)/\\*.*?\\*/", "").replaceAll("//[^\n]*", "");
        for (String word : RULED_OUT) {
            Due.is("uses of " + word, count(Pattern.compile("\\b" + word + "\\b"), code), 0);
        }
        Due.is("lambdas, method references, strings", count(Pattern.compile("->|::|\""), code), 0);
        Due.is("arrays of arrays", count(Pattern.compile("\\[\\s*\\]\\s*\\["), code), 0);
        Due.is("objects made outside of array fields", count(Pattern.compile("\\bnew\\b"), code),
                count(ARRAY_FIELD, code));
        Due.end();
    }

    private static int count(Pattern pattern, String code) {
        Matcher matcher = pattern.matcher(code);
        int found = 0;
        while (matcher.find()) {
            found++;
        }
        return found;
    }
}
