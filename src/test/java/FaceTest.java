import java.lang.reflect.Constructor;
import java.lang.reflect.Method;
import java.lang.reflect.Modifier;
import java.nio.file.Files;
import java.nio.file.Path;
import java.util.ArrayList;
import java.util.Arrays;
import java.util.List;
import java.util.Set;
import java.util.TreeSet;

/** The class has the face that ../shared/DOC.md prints, and no more; the class keeps to what rule 1 says of it. */
public final class FaceTest {
    public static void main(String[] args) throws Exception {
        Set<String> want = faceOfDocument();
        Set<String> got = faceOfClass();
        Check.part("the face", () -> Check.due("the public face", got, want));
        Check.part("the class", FaceTest::checkClass);
        Check.end();
    }

    private static Set<String> faceOfDocument() throws Exception {
        Set<String> face = new TreeSet<>();
        boolean inside = false;
        for (String line : Files.readAllLines(Path.of("../shared/DOC.md"))) {
            if (line.startsWith("public final class Feederlight")) {
                inside = true;
            } else if (line.equals("}")) {
                inside = false;
            } else if (inside) {
                face.add(line.trim().replaceAll(";$", "").replaceAll("\\bint \\w+(?=[,)])", "int"));
            }
        }
        return face;
    }

    private static Set<String> faceOfClass() {
        Set<String> face = new TreeSet<>();
        for (Constructor<?> made : Feederlight.class.getDeclaredConstructors()) {
            face.add("public Feederlight(" + names(made.getParameterTypes(), ", ") + ")");
        }
        for (Method method : Feederlight.class.getDeclaredMethods()) {
            if (!Modifier.isPrivate(method.getModifiers())) {
                String thrown = names(method.getExceptionTypes(), ", ");
                face.add(Modifier.toString(method.getModifiers()) + " " + method.getReturnType().getSimpleName() + " "
                        + method.getName() + "(" + names(method.getParameterTypes(), ", ") + ")"
                        + (thrown.isEmpty() ? "" : " throws " + thrown));
            }
        }
        return face;
    }

    private static String names(Class<?>[] types, String between) {
        List<String> names = new ArrayList<>();
        for (Class<?> type : types) {
            names.add(type.getSimpleName());
        }
        return String.join(between, names);
    }

    private static void checkClass() {
        Class<?> face = Feederlight.class;
        Check.due("public and final", face.getModifiers(), Modifier.PUBLIC | Modifier.FINAL);
        Check.due("fields that are not private",
                Arrays.stream(face.getDeclaredFields()).filter(f -> !Modifier.isPrivate(f.getModifiers())).count(), 0L);
        Set<String> open = new TreeSet<>();
        for (Method method : face.getMethods()) {
            if (method.getDeclaringClass() == face) {
                open.add(method.getName());
            }
        }
        List<Class<?>> classes = new ArrayList<>(List.of(face));
        classes.addAll(List.of(face.getDeclaredClasses()));
        for (Class<?> one : classes) {
            for (Method method : one.getDeclaredMethods()) {
                if (Modifier.isPrivate(method.getModifiers()) && open.contains(method.getName())) {
                    Check.fail("a private method bears the name " + method.getName());
                }
            }
        }
    }
}
