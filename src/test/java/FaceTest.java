import java.lang.reflect.Constructor;
import java.lang.reflect.Field;
import java.lang.reflect.Method;
import java.lang.reflect.Modifier;
import java.util.Arrays;
import java.util.Set;
import java.util.TreeSet;

/** The public face of the document, and the rules of LANGUAGE.md that can be seen on the compiled class. */
public final class FaceTest {
    private static final Class<?> FACE = SuperpageReserve.class;

    public static void main(String[] args) {
        constants();
        classAndConstructor();
        methods();
        privateMembers();
        Check.end();
    }

    private static void constants() {
        Check.due("BAD_ARG", SuperpageReserve.BAD_ARG, -1);
        Check.due("FULL", SuperpageReserve.FULL, -2);
        Check.due("ABSENT", SuperpageReserve.ABSENT, -3);
        Check.due("READ_ONLY", SuperpageReserve.READ_ONLY, -4);
        Set<String> visible = new TreeSet<>();
        for (Field field : FACE.getDeclaredFields()) {
            if (!Modifier.isPrivate(field.getModifiers())) {
                visible.add(Modifier.toString(field.getModifiers()) + " " + field.getType() + " " + field.getName());
            }
        }
        Check.due("the fields that are not private", visible, new TreeSet<>(Arrays.asList(
                "public static final int BAD_ARG",
                "public static final int FULL",
                "public static final int ABSENT",
                "public static final int READ_ONLY")));
    }

    private static void classAndConstructor() {
        Check.due("the class's modifiers", Modifier.toString(FACE.getModifiers()), "public final");
        Check.due("the class's package", FACE.getPackageName(), "");
        Check.due("the number of nested classes", FACE.getDeclaredClasses().length, 0);
        Constructor<?>[] constructors = FACE.getDeclaredConstructors();
        Check.due("the number of constructors", constructors.length, 1);
        Check.due("the constructor", constructors[0].toString(), "public SuperpageReserve()");
    }

    private static void methods() {
        Set<String> visible = new TreeSet<>();
        for (Method method : FACE.getDeclaredMethods()) {
            if (!Modifier.isPrivate(method.getModifiers())) {
                visible.add(method.toString().replace("SuperpageReserve.", ""));
            }
        }
        Check.due("the methods that are not private", visible, new TreeSet<>(Arrays.asList(
                "public int touch(int,int)",
                "public int write(int,int,int,int)",
                "public int read(int,int,int)",
                "public int unmap(int,int)",
                "public int protect(int,int,int)",
                "public int state(int,int)",
                "public boolean shared(int)",
                "public int split(int)",
                "public int copy(int,int,int)",
                "public int unmapRange(int,int,int)",
                "public int present(int)",
                "public int inUse()",
                "public int digest(int)")));
    }

    private static void privateMembers() {
        Set<String> publicNames = new TreeSet<>();
        for (Method method : FACE.getMethods()) {
            publicNames.add(method.getName());
        }
        for (Method method : FACE.getDeclaredMethods()) {
            if (Modifier.isPrivate(method.getModifiers())) {
                Check.due("whether private " + method.getName() + " bears a public name", publicNames.contains(method.getName()), false);
                Check.due("whether " + method.getName() + " answers an array", method.getReturnType().isArray(), false);
            }
            Check.due("whether " + method.getName() + " takes more than seven parameters", method.getParameterCount() > 7, false);
        }
        for (Field field : FACE.getDeclaredFields()) {
            if (Modifier.isStatic(field.getModifiers())) {
                Check.due("whether static " + field.getName() + " is a final int or long", isConstant(field), true);
            } else {
                Check.due("whether " + field.getName() + " is of an allowed type", isAllowed(field.getType()), true);
            }
        }
    }

    private static boolean isConstant(Field field) {
        boolean whole = field.getType() == int.class || field.getType() == long.class;
        return whole && Modifier.isFinal(field.getModifiers());
    }

    private static boolean isAllowed(Class<?> type) {
        Class<?> plain = type.isArray() ? type.getComponentType() : type;
        return plain.isPrimitive() && plain != float.class && plain != double.class;
    }
}
