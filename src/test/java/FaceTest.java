import java.lang.reflect.Constructor;
import java.lang.reflect.Field;
import java.lang.reflect.Method;
import java.lang.reflect.Modifier;
import java.util.Set;
import java.util.TreeSet;

/** The class has the members of the document's public face, and no other that is not private. */
public final class FaceTest {
    private static final Set<String> FACE = Set.of(
            "EMPTY = 0", "EQUAL = 1", "DIFFERENT = 2", "LESS = 3", "LESS_OR_EQUAL = 4",
            "GREATER = 5", "GREATER_OR_EQUAL = 6",
            "SyscallFilter/0",
            "int range/2", "int condition/4", "int put/2", "int remove/1", "int move/2",
            "int change/2", "int fallback/1", "int rules/0", "int argument/2", "int decide/1",
            "int matched/1", "int countWith/3", "int nextWith/2", "int matching/1",
            "int hidden/1", "int stretches/0", "int open/0");

    private static int wrong = 0;

    public static void main(String[] args) throws IllegalAccessException {
        checkClass();
        Set<String> found = new TreeSet<>();
        addConstants(found);
        addConstructors(found);
        addMethods(found);
        compareWithFace(found);
        System.out.println(wrong == 0 ? "the face is as due" : wrong + " faults in the face");
        if (wrong != 0) {
            System.exit(1);
        }
    }

    private static void fault(String text) {
        wrong++;
        System.out.println(text);
    }

    private static void checkClass() {
        int modifiers = SyscallFilter.class.getModifiers();
        if (!Modifier.isPublic(modifiers) || !Modifier.isFinal(modifiers)) {
            fault("the class is not public and final");
        }
        if (!SyscallFilter.class.getPackageName().isEmpty()) {
            fault("the class has a package");
        }
        if (SyscallFilter.class.getDeclaredClasses().length != 0) {
            fault("the class has a nested class");
        }
    }

    private static void addConstants(Set<String> found) throws IllegalAccessException {
        for (Field field : SyscallFilter.class.getDeclaredFields()) {
            int modifiers = field.getModifiers();
            if (Modifier.isPrivate(modifiers)) {
                continue;
            }
            if (!Modifier.isPublic(modifiers) || !Modifier.isStatic(modifiers)
                    || !Modifier.isFinal(modifiers) || field.getType() != int.class) {
                fault("the field " + field.getName() + " is neither private nor a public constant");
                continue;
            }
            found.add(field.getName() + " = " + field.getInt(null));
        }
    }

    private static void addConstructors(Set<String> found) {
        for (Constructor<?> constructor : SyscallFilter.class.getDeclaredConstructors()) {
            int modifiers = constructor.getModifiers();
            if (Modifier.isPrivate(modifiers)) {
                continue;
            }
            String prefix = Modifier.isPublic(modifiers) ? "" : "not public: ";
            found.add(prefix + "SyscallFilter/" + constructor.getParameterCount());
        }
    }

    private static void addMethods(Set<String> found) {
        for (Method method : SyscallFilter.class.getDeclaredMethods()) {
            int modifiers = method.getModifiers();
            if (Modifier.isPrivate(modifiers)) {
                continue;
            }
            boolean plain = Modifier.isPublic(modifiers) && !Modifier.isStatic(modifiers);
            for (Class<?> parameter : method.getParameterTypes()) {
                plain = plain && parameter == int.class;
            }
            String prefix = plain ? "" : "not as in the document: ";
            found.add(prefix + method.getReturnType().getSimpleName() + " " + method.getName()
                    + "/" + method.getParameterCount());
        }
    }

    private static void compareWithFace(Set<String> found) {
        for (String member : new TreeSet<>(FACE)) {
            if (!found.contains(member)) {
                fault("missing: " + member);
            }
        }
        for (String member : found) {
            if (!FACE.contains(member)) {
                fault("not in the document: " + member);
            }
        }
    }
}
