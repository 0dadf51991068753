import java.io.IOException;
import java.nio.file.Files;
import java.nio.file.Path;
import java.util.regex.Pattern;

/** Those rules of LANGUAGE.md that a look at the words of the source tells; run it in the project's folder. */
public final class LanguageTest {
    private static final String[] FORBIDDEN = {
        "^\\s*package\\b", "^\\s*import\\b", "->", "::", "\\bfinally\\b", "\\btry\\b", "\\bcatch\\b", "\\bsynchronized\\b",
        "\\bassert\\b", "\\bstatic\\s*\\{", "Exact\\(", "\\bSystem\\b", "\\bhashCode\\b", "\\bequals\\b", "\\btoString\\b",
        "\\bprotected\\b", "\\brecord\\b", "\"\\s*\\+|\\+\\s*\"", "while\\s*\\(true", "for\\s*\\(\\s*;\\s*;", "java\\.", "\\bObject\\b",
    };

    public static void main(String[] args) throws IOException {
        String source = Files.readString(Path.of("src/main/java/StringShed.java"));
        String code = source.replaceAll("(?s)/\\*.*?\\*/", "").replaceAll("//[^\n]*", "");
        for (String words : FORBIDDEN) {
            boolean found = Pattern.compile(words, Pattern.MULTILINE).matcher(code).find();
            Check.compare("the source has " + words, "false", String.valueOf(found));
        }
        boolean ascii = source.chars().allMatch(c -> c < 127);
        Check.compare("signs to 126 alone", "true", String.valueOf(ascii));
        Check.end();
    }
}
