import java.lang.reflect.Field;
import java.lang.reflect.Method;
import java.lang.reflect.Modifier;
import java.util.Set;
import java.util.TreeSet;

/** The public face of the document, and those rules of LANGUAGE.md that a look from outside can tell. */
public final class FaceTest {
    private static final Set<String> FACE = Set.of(
            "put/2", "remove/2", "move/3", "copy/3", "replace/4", "all/2", "mark/2", "marked/1",
            "go/1", "present/0", "line/1", "lines/0", "find/1", "undo/0");
    private static final Set<Class<?>> TYPES = Set.of(
            int.class, long.class, short.class, byte.class, char.class, boolean.class,
            int[].class, long[].class, short[].class, byte[].class, char[].class, boolean[].class);

    public static void main(String[] args) {
        checkClass();
        checkMethods();
        checkFields();
        Due.end("FaceTest");
    }

    private static void checkClass() {
        int modifiers = LineDesk.class.getModifiers();
        Due.holds("the class is public and final", Modifier.isPublic(modifiers) && Modifier.isFinal(modifiers));
        Due.holds("the class extends Object alone", LineDesk.class.getSuperclass() == Object.class);
        Due.is("interfaces", LineDesk.class.getInterfaces().length, 0);
        Due.is("nested classes", LineDesk.class.getDeclaredClasses().length, 0);
        Due.is("constructors", LineDesk.class.getDeclaredConstructors().length, 1);
        Due.is("public constructors without parameters", publicPlainConstructors(), 1);
    }

    private static int publicPlainConstructors() {
        int found = 0;
        for (var constructor : LineDesk.class.getConstructors()) {
            found += constructor.getParameterCount() == 0 ? 1 : 0;
        }
        return found;
    }

    private static void checkMethods() {
        Set<String> seen = new TreeSet<>();
        Set<String> publicNames = new TreeSet<>();
        for (Method method : LineDesk.class.getDeclaredMethods()) {
            if (Modifier.isPublic(method.getModifiers())) {
                seen.add(method.getName() + "/" + method.getParameterCount());
                publicNames.add(method.getName());
                Due.holds(method + " answers an int", method.getReturnType() == int.class);
                Due.holds(method + " is not static", !Modifier.isStatic(method.getModifiers()));
            }
            for (Class<?> type : method.getParameterTypes()) {
                Due.holds(method + " takes allowed types", TYPES.contains(type));
            }
            Due.holds(method + " takes at most seven parameters", method.getParameterCount() <= 7);
        }
        Due.holds("the public methods are those of the document: " + seen, seen.equals(FACE));
        for (Method method : LineDesk.class.getDeclaredMethods()) {
            if (!Modifier.isPublic(method.getModifiers())) {
                Due.holds(method + " is private", Modifier.isPrivate(method.getModifiers()));
                Due.holds(method + " bears no public name", !publicNames.contains(method.getName()));
            }
        }
    }

    private static void checkFields() {
        int held = 0;
        for (Field field : LineDesk.class.getDeclaredFields()) {
            int modifiers = field.getModifiers();
            Due.holds(field + " is private", Modifier.isPrivate(modifiers));
            Due.holds(field + " has an allowed type", TYPES.contains(field.getType()));
            if (Modifier.isStatic(modifiers)) {
                boolean number = field.getType() == int.class || field.getType() == long.class;
                Due.holds(field + " is a constant number", Modifier.isFinal(modifiers) && number);
            } else {
                held++;
            }
        }
        Due.holds("at most forty fields", held <= 40);
    }
}
