import java.lang.reflect.Constructor;
import java.lang.reflect.Field;
import java.lang.reflect.Method;
import java.lang.reflect.Modifier;
import java.util.ArrayList;
import java.util.Arrays;
import java.util.Collections;
import java.util.List;

/** The public face, and rule 1 of LANGUAGE.md: nothing else is visible. */
public final class FaceTest {
    private static final String[] FACE = {
        "int about(int) IllegalArgumentException",
        "int append(int) IllegalArgumentException IllegalStateException",
        "int begin() IllegalStateException",
        "int clearText()",
        "int cut(int,int) IndexOutOfBoundsException",
        "int cuts(int) IndexOutOfBoundsException",
        "int errorPosition()",
        "int falls(int,int) IndexOutOfBoundsException",
        "int fray(int,int) IndexOutOfBoundsException IllegalStateException",
        "int heaviest()",
        "int load() IllegalStateException",
        "int make(int) IllegalArgumentException IllegalStateException",
        "int mend(int,int) IndexOutOfBoundsException IllegalStateException",
        "int part(int,int) IndexOutOfBoundsException IllegalArgumentException",
        "int pin(int,boolean) IndexOutOfBoundsException",
        "int restore(int) IndexOutOfBoundsException IllegalStateException",
        "int rings()",
        "int runScript(int,long) IllegalArgumentException",
        "int save(int) IndexOutOfBoundsException",
        "int simulate(long,int) IllegalArgumentException",
        "int spares()",
        "int step() IllegalStateException",
        "int string(int,int) IndexOutOfBoundsException",
        "int stringAt(int) IllegalArgumentException",
        "int takes()",
        "int tie(int,int,boolean) IndexOutOfBoundsException IllegalArgumentException IllegalStateException",
        "int undo() IllegalStateException",
        "int way(int,int) IndexOutOfBoundsException IllegalArgumentException",
    };

    public static void main(String[] args) {
        Class<?> type = StringShed.class;
        Check.is("modifiers", Modifier.PUBLIC | Modifier.FINAL, type::getModifiers);
        Check.is("NONE", -9, () -> StringShed.NONE);
        Check.compare("methods", String.join("\n", FACE), String.join("\n", publicMethods(type)));
        Check.compare("fields", "[NONE]", visibleFields(type).toString());
        Constructor<?>[] made = type.getDeclaredConstructors();
        Check.is("constructors", 1, () -> made.length);
        Check.is("constructor", Modifier.PUBLIC, () -> made[0].getModifiers());
        Check.is("its parameters", 0, () -> made[0].getParameterCount());
        Check.end();
    }

    private static List<String> publicMethods(Class<?> type) {
        List<String> face = new ArrayList<>();
        for (Method method : type.getDeclaredMethods()) {
            if (Modifier.isPrivate(method.getModifiers())) {
                continue;
            }
            StringBuilder line = new StringBuilder(method.getReturnType() + " " + method.getName() + "(");
            line.append(String.join(",", Arrays.stream(method.getParameterTypes()).map(Class::getName).toList()));
            line.append(")");
            for (Class<?> thrown : method.getExceptionTypes()) {
                line.append(" ").append(thrown.getSimpleName());
            }
            face.add(line.toString());
        }
        Collections.sort(face);
        return face;
    }

    private static List<String> visibleFields(Class<?> type) {
        List<String> names = new ArrayList<>();
        for (Field field : type.getDeclaredFields()) {
            if (!Modifier.isPrivate(field.getModifiers())) {
                names.add(field.getName());
            }
        }
        return names;
    }
}
