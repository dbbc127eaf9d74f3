import java.io.IOException;
import java.lang.reflect.Constructor;
import java.lang.reflect.Field;
import java.lang.reflect.Method;
import java.lang.reflect.Modifier;
import java.nio.file.Files;
import java.nio.file.Path;
import java.util.ArrayList;
import java.util.Arrays;
import java.util.HashSet;
import java.util.List;
import java.util.Set;
import java.util.TreeSet;
import java.util.stream.Collectors;

/** "The public face", as the document's own lines tell it, and rule 1 of LANGUAGE.md, on the compiled class. */
public final class FaceTest {
    private static final Class<?> TABLE = PepperboxTable.class;

    public static void main(String[] args) throws IOException {
        List<String> due = faceOfDocument();
        Due.is("the document's face was found", true, due.size() == 26);
        isSame(new TreeSet<>(due), new TreeSet<>(faceOfClass()));
        nothingElseIsSeen();
        noPrivateMethodHasAPublicName();
        classesInside();
        Due.end("FaceTest");
    }

    /** The lines of the document's face; of each parameter the type alone, as a name is none of the compiled class. */
    private static List<String> faceOfDocument() throws IOException {
        List<String> face = new ArrayList<>();
        boolean inside = false;
        for (String line : Files.readAllLines(Path.of("../shared/DOC.md"))) {
            inside = inside ? !line.equals("}") : line.startsWith("public final class");
            if (inside) {
                face.add(line.strip().replaceAll("[;{]$", "").strip().replaceAll("(int|long) \\w+(?=[,)])", "$1"));
            }
        }
        return face;
    }

    private static List<String> faceOfClass() {
        List<String> face = new ArrayList<>();
        face.add(Modifier.toString(TABLE.getModifiers()) + " class " + TABLE.getSimpleName());
        for (Constructor<?> made : TABLE.getConstructors()) {
            face.add("public " + TABLE.getSimpleName() + list(made.getParameterTypes()) + thrown(made.getExceptionTypes()));
        }
        for (Method method : TABLE.getDeclaredMethods()) {
            if (Modifier.isPublic(method.getModifiers())) {
                face.add(Modifier.toString(method.getModifiers()) + " " + method.getReturnType().getSimpleName() + " "
                        + method.getName() + list(method.getParameterTypes()) + thrown(method.getExceptionTypes()));
            }
        }
        return face;
    }

    private static String names(Class<?>[] types) {
        return Arrays.stream(types).map(Class::getSimpleName).collect(Collectors.joining(", "));
    }

    private static String list(Class<?>[] types) {
        return "(" + names(types) + ")";
    }

    private static String thrown(Class<?>[] types) {
        return types.length == 0 ? "" : " throws " + names(types);
    }

    private static void isSame(Set<String> due, Set<String> got) {
        for (String line : due) {
            Due.is("of the document, in the class: " + line, true, got.contains(line));
        }
        for (String line : got) {
            Due.is("of the class, in the document: " + line, true, due.contains(line));
        }
    }

    private static void nothingElseIsSeen() {
        for (Field field : TABLE.getDeclaredFields()) {
            Due.is("private: " + field, true, Modifier.isPrivate(field.getModifiers()));
        }
        for (Constructor<?> made : TABLE.getDeclaredConstructors()) {
            Due.is("the only one: " + made, 0, made.getParameterCount());
        }
        for (Method method : TABLE.getDeclaredMethods()) {
            int seen = method.getModifiers() & (Modifier.PUBLIC | Modifier.PRIVATE);
            Due.is("public or private: " + method, true, method.isSynthetic() || seen != 0);
        }
        Due.is("nothing above it", true, TABLE.getSuperclass() == Object.class && TABLE.getInterfaces().length == 0);
    }

    private static void noPrivateMethodHasAPublicName() {
        Set<String> open = new HashSet<>();
        for (Method method : TABLE.getDeclaredMethods()) {
            if (Modifier.isPublic(method.getModifiers())) {
                Due.is("a second one of that name: " + method, true, open.add(method.getName()));
            }
        }
        for (Method method : TABLE.getDeclaredMethods()) {
            boolean isPrivate = Modifier.isPrivate(method.getModifiers());
            Due.is("a public name: " + method, false, isPrivate && open.contains(method.getName()));
        }
    }

    private static void classesInside() {
        for (Class<?> inside : TABLE.getDeclaredClasses()) {
            int how = inside.getModifiers();
            Due.is("static: " + inside, true, Modifier.isStatic(how));
            Due.is("neither public nor protected: " + inside, false, Modifier.isPublic(how) || Modifier.isProtected(how));
        }
    }
}
