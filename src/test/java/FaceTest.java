import java.io.IOException;
import java.lang.reflect.Constructor;
import java.lang.reflect.Field;
import java.lang.reflect.Method;
import java.lang.reflect.Modifier;
import java.nio.file.Files;
import java.nio.file.Path;
import java.util.ArrayList;
import java.util.List;

/** The public face: just the document's members, with their types, and no other that can be seen. */
final class FaceTest {
    private static final Path DOCUMENT = Path.of("..", "shared", "DOC.md");
    private static final Path SOURCE = Path.of("src", "main", "java", "Segmentry.java");
    private static final int MEMBERS = 27;

    public static void main(String[] args) throws IOException {
        int modifiers = Segmentry.class.getModifiers();
        Check.due("the class is public and final", modifiers, Modifier.PUBLIC | Modifier.FINAL);
        Check.due("what it extends", Segmentry.class.getSuperclass().getName(), "java.lang.Object");
        Check.due("the interfaces that it implements", Segmentry.class.getInterfaces().length, 0);
        Check.due("its package", Segmentry.class.getPackageName(), "");
        List<String> face = documentedFace();
        Check.due("members in the document", face.size(), MEMBERS);
        members(face);
        parameterNames(face);
        hidden();
        Check.end();
    }

    /** The lines of the document's face, each without "public" and ";". */
    private static List<String> documentedFace() throws IOException {
        List<String> face = new ArrayList<>();
        for (String line : Files.readAllLines(DOCUMENT)) {
            if (line.startsWith("    public ")) {
                face.add(line.trim().replaceAll("^public |;$", "").replace("java.util.", ""));
            }
        }
        return face;
    }

    private static void members(List<String> face) {
        List<String> want = new ArrayList<>();
        for (String member : face) {
            want.add(member.replaceAll("(int|char) [a-z]+([,)])", "$1$2"));
        }
        List<String> got = new ArrayList<>();
        for (Constructor<?> constructor : Segmentry.class.getDeclaredConstructors()) {
            Check.due(constructor + " is public", constructor.getModifiers(), Modifier.PUBLIC);
            got.add(told("Segmentry", constructor.getParameterTypes(), constructor.getExceptionTypes()));
        }
        for (Method method : Segmentry.class.getDeclaredMethods()) {
            if (!Modifier.isPrivate(method.getModifiers())) {
                Check.due(method + " is public", method.getModifiers(), Modifier.PUBLIC);
                String name = method.getReturnType() + " " + method.getName();
                got.add(told(name, method.getParameterTypes(), method.getExceptionTypes()));
            }
        }
        want.sort(null);
        got.sort(null);
        Check.due("the public members", String.join("; ", got), String.join("; ", want));
    }

    private static String told(String name, Class<?>[] parameters, Class<?>[] exceptions) {
        String thrown = names(exceptions);
        return name + "(" + names(parameters) + ")" + (thrown.isEmpty() ? "" : " throws " + thrown);
    }

    private static String names(Class<?>[] types) {
        List<String> names = new ArrayList<>();
        for (Class<?> type : types) {
            names.add(type.getSimpleName());
        }
        return String.join(", ", names);
    }

    /** A compiled class does not keep the names of parameters, so the source is looked at. */
    private static void parameterNames(List<String> face) throws IOException {
        String source = Files.readString(SOURCE).replaceAll("\\s+", " ");
        for (String member : face) {
            Check.due("the source has " + member, "" + source.contains(" public " + member + " {"), "true");
        }
    }

    private static void hidden() {
        for (Field field : Segmentry.class.getDeclaredFields()) {
            Check.due(field + " is private", field.getModifiers() & Modifier.PRIVATE, Modifier.PRIVATE);
        }
        for (Class<?> inside : Segmentry.class.getDeclaredClasses()) {
            int seen = inside.getModifiers() & (Modifier.PUBLIC | Modifier.PROTECTED);
            Check.due(inside + " is not public", seen, 0);
        }
    }
}
