import java.io.IOException;
import java.lang.reflect.Field;
import java.lang.reflect.Method;
import java.lang.reflect.Modifier;
import java.nio.file.Files;
import java.nio.file.Path;
import java.util.ArrayList;
import java.util.List;
import java.util.regex.Pattern;

/** Those rules of LANGUAGE.md that the words of the source and the numbers of its members tell; run it in the project's folder. */
public final class LanguageTest {
    private static final String[] FORBIDDEN = {
        "^\\s*package\\b", "^\\s*import\\b", "->", "::", "\\bfinally\\b", "\\btry\\b", "\\bcatch\\b", "\\bsynchronized\\b",
        "\\bassert\\b", "\\bstatic\\s*\\{", "Exact\\(", "\\bSystem\\b", "\\bhashCode\\b", "\\bequals\\b", "\\btoString\\b",
        "\\bprotected\\b", "\\brecord\\b", "\"\\s*\\+|\\+\\s*\"", "while\\s*\\(true", "for\\s*\\(\\s*;\\s*;", "java\\.", "\\bObject\\b",
    };

    public static void main(String[] args) throws IOException {
        String source = Files.readString(Path.of("src/main/java/StringShed.java"));
        String code = source.replaceAll("(?s)/\\*.*?\\*/", "").replaceAll("//[^\n]*", "");
        for (String words : FORBIDDEN) {
            boolean found = Pattern.compile(words, Pattern.MULTILINE).matcher(code).find();
            Check.compare("the source has " + words, "false", String.valueOf(found));
        }
        sizesAreKept();
        boolean ascii = source.chars().allMatch(c -> c < 127);
        Check.compare("signs to 126 alone", "true", String.valueOf(ascii));
        Check.end();
    }

    /** Rules 1, 2 and 11: names of methods, classes inside, how many of each. */
    private static void sizesAreKept() {
        Class<?>[] inside = StringShed.class.getDeclaredClasses();
        Check.compare("at most twelve classes", "true", String.valueOf(inside.length < 12));
        for (Class<?> type : inside) {
            int flags = type.getModifiers();
            boolean hidden = !Modifier.isPublic(flags) && !Modifier.isProtected(flags) && Modifier.isStatic(flags);
            Check.compare(type + " is hidden and static", "true", String.valueOf(hidden));
            sizesAreKept(type);
        }
        sizesAreKept(StringShed.class);
        List<String> names = new ArrayList<>();
        for (Method method : StringShed.class.getDeclaredMethods()) {
            Check.compare(method + " bears a name of its own", "false", String.valueOf(names.contains(method.getName())));
            names.add(method.getName());
        }
    }

    private static void sizesAreKept(Class<?> type) {
        int fields = 0;
        for (Field field : type.getDeclaredFields()) {
            boolean fixed = Modifier.isFinal(field.getModifiers());
            fields += Modifier.isStatic(field.getModifiers()) ? 0 : 1;
            Check.compare(field + " is no static state", "true",
                String.valueOf(fixed || !Modifier.isStatic(field.getModifiers())));
        }
        Check.compare(type + " has at most twenty fields", "true", String.valueOf(fields <= 20));
        for (Method method : type.getDeclaredMethods()) {
            Check.compare(method + " takes at most seven", "true", String.valueOf(method.getParameterCount() <= 7));
        }
    }
}
