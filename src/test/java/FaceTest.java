import java.lang.reflect.Constructor;
import java.lang.reflect.Field;
import java.lang.reflect.Method;
import java.lang.reflect.Modifier;
import java.util.ArrayList;
import java.util.Collections;
import java.util.List;

/** "The public face": the class has these members, and none beside them that is not private. */
public final class FaceTest {
    private static final String[] METHODS = {
        "boolean write(long)",
        "int compile() throws IllegalArgumentException IllegalStateException",
        "int position()",
        "boolean start()",
        "int run(int) throws IllegalArgumentException",
        "int state()",
        "int count(int)",
        "int next()",
        "int shown(int)",
    };

    public static void main(String[] args) throws ReflectiveOperationException {
        theClass();
        theConstant();
        theConstructor();
        theMethods();
        theClassesInside();
        Session.end();
    }

    private static void theClass() {
        int modifiers = PairMachine.class.getModifiers();
        Session.due("whether the class is public", Modifier.isPublic(modifiers), true);
        Session.due("whether the class is final", Modifier.isFinal(modifiers), true);
        Session.due("the package", PairMachine.class.getPackageName(), "");
        Session.due("the class above", PairMachine.class.getSuperclass().getName(), "java.lang.Object");
        Session.due("how many interfaces it has", PairMachine.class.getInterfaces().length, 0);
    }

    /** "NONE = -1: Nothing there." */
    private static void theConstant() throws ReflectiveOperationException {
        StringBuilder open = new StringBuilder();
        for (Field field : PairMachine.class.getDeclaredFields()) {
            if (!Modifier.isPrivate(field.getModifiers())) {
                open.append(Modifier.toString(field.getModifiers())).append(' ');
                open.append(field.getType().getSimpleName()).append(' ').append(field.getName());
            }
        }
        Session.due("fields that are not private", open.toString(), "public static final int NONE");
        Session.due("NONE", PairMachine.class.getField("NONE").getInt(null), -1);
    }

    private static void theConstructor() {
        Constructor<?>[] constructors = PairMachine.class.getDeclaredConstructors();
        Session.due("how many constructors there are", constructors.length, 1);
        Session.due("the constructor", constructors[0].toString(), "public PairMachine(int)");
    }

    private static void theMethods() {
        List<String> open = new ArrayList<>();
        List<String> due = new ArrayList<>();
        for (Method method : PairMachine.class.getDeclaredMethods()) {
            int modifiers = method.getModifiers();
            if (!Modifier.isPrivate(modifiers) && !method.isSynthetic()) {
                open.add(Modifier.toString(modifiers) + " " + told(method));
            }
        }
        for (String method : METHODS) {
            due.add("public " + method);
        }
        Collections.sort(open);
        Collections.sort(due);
        Session.due("methods that are not private", String.join(", ", open), String.join(", ", due));
    }

    private static String told(Method method) {
        StringBuilder line = new StringBuilder();
        line.append(method.getReturnType().getSimpleName()).append(' ').append(method.getName()).append('(');
        for (Class<?> type : method.getParameterTypes()) {
            line.append(type.getSimpleName());
        }
        line.append(')');
        if (method.getExceptionTypes().length > 0) {
            line.append(" throws");
        }
        for (Class<?> type : method.getExceptionTypes()) {
            line.append(' ').append(type.getSimpleName());
        }
        return line.toString();
    }

    /** They are static, and nothing of them can be seen from outside. */
    private static void theClassesInside() {
        for (Class<?> inside : PairMachine.class.getDeclaredClasses()) {
            int modifiers = inside.getModifiers();
            Session.due("whether " + inside.getName() + " is static", Modifier.isStatic(modifiers), true);
            boolean isOpen = Modifier.isPublic(modifiers) || Modifier.isProtected(modifiers);
            Session.due("whether " + inside.getName() + " is seen from outside", isOpen, false);
        }
    }
}
