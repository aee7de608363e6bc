import java.lang.reflect.Constructor;
import java.lang.reflect.Field;
import java.lang.reflect.Method;
import java.lang.reflect.Modifier;
import java.util.ArrayList;
import java.util.Arrays;
import java.util.List;

/** The public face: just the document's members, with their types, and no other that can be seen. */
final class FaceTest {
    private static final String[] FACE = {
        "int addItem(char, int, int) IllegalArgumentException, IllegalStateException",
        "int addRule(int, char) IndexOutOfBoundsException, IllegalArgumentException, IllegalStateException",
        "int addField(int, int) IndexOutOfBoundsException, IllegalArgumentException, IllegalStateException",
        "void clear()",
        "int closeLoop() IllegalStateException",
        "char content(int, int, int) IllegalStateException, IndexOutOfBoundsException",
        "int contentLength(int, int) IllegalStateException, IndexOutOfBoundsException",
        "int control() NoSuchElementException",
        "int discard()",
        "int elements(int) IllegalStateException, IndexOutOfBoundsException",
        "int faultKind(int) IndexOutOfBoundsException",
        "int faultPlace(int) IndexOutOfBoundsException",
        "int feed(char) IllegalArgumentException, IllegalStateException",
        "int feedWritten() IllegalStateException",
        "int item(int) IllegalStateException, IndexOutOfBoundsException",
        "int items()",
        "int length()",
        "char letter(int) IndexOutOfBoundsException",
        "void openLoop(int, int) IllegalArgumentException, IllegalStateException",
        "int pass(int) IllegalStateException, IndexOutOfBoundsException",
        "int read() IllegalStateException",
        "int segments() IllegalStateException",
        "void setCondition(int, int, char) IndexOutOfBoundsException, IllegalArgumentException",
        "char tag(int) IllegalStateException, IndexOutOfBoundsException",
        "int write() IllegalStateException",
        "int written()",
    };

    public static void main(String[] args) {
        int modifiers = Segmentry.class.getModifiers();
        Check.due("the class is public and final", modifiers, Modifier.PUBLIC | Modifier.FINAL);
        methods();
        constructors();
        for (Field field : Segmentry.class.getDeclaredFields()) {
            Check.due(field + " is private", field.getModifiers() & Modifier.PRIVATE, Modifier.PRIVATE);
        }
        for (Class<?> inside : Segmentry.class.getDeclaredClasses()) {
            int seen = inside.getModifiers() & (Modifier.PUBLIC | Modifier.PROTECTED);
            Check.due(inside + " is not public", seen, 0);
        }
        Check.end();
    }

    private static void methods() {
        List<String> face = new ArrayList<>();
        List<String> hidden = new ArrayList<>();
        for (Method method : Segmentry.class.getDeclaredMethods()) {
            if (Modifier.isPrivate(method.getModifiers())) {
                hidden.add(method.getName());
            } else {
                Check.due(method + " is public", method.getModifiers(), Modifier.PUBLIC);
                face.add(told(method));
                hidden.remove(method.getName());
            }
        }
        for (String name : hidden) {
            Check.due("public ones named " + name, face.stream().filter(f -> f.contains(" " + name + "(")).count(), 0);
        }
        List<String> want = new ArrayList<>(Arrays.asList(FACE));
        want.sort(null);
        face.sort(null);
        Check.due("the public methods", String.join("; ", face), String.join("; ", want));
    }

    private static void constructors() {
        Constructor<?>[] all = Segmentry.class.getDeclaredConstructors();
        Check.due("constructors", all.length, 1);
        Check.due("the constructor is public", all[0].getModifiers(), Modifier.PUBLIC);
        Check.due("its parameters", all[0].getParameterCount(), 0);
    }

    private static String told(Method method) {
        StringBuilder told = new StringBuilder();
        told.append(method.getReturnType()).append(' ').append(method.getName()).append('(');
        told.append(names(method.getParameterTypes())).append(')');
        String thrown = names(method.getExceptionTypes());
        return told.append(thrown.isEmpty() ? "" : " ").append(thrown).toString();
    }

    private static String names(Class<?>[] types) {
        List<String> names = new ArrayList<>();
        for (Class<?> type : types) {
            names.add(type.getSimpleName());
        }
        return String.join(", ", names);
    }
}
