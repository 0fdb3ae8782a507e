import java.lang.reflect.Constructor;
import java.lang.reflect.Field;
import java.lang.reflect.Method;
import java.lang.reflect.Modifier;
import java.util.Arrays;
import java.util.HashSet;
import java.util.List;
import java.util.Set;
import java.util.TreeSet;

/** The public face, and the rules of LANGUAGE.md that a loaded class shows. */
public final class FaceTest {
    private static final int PUBLIC_CONSTANT = Modifier.PUBLIC | Modifier.STATIC | Modifier.FINAL;

    public static void main(String[] args) throws ReflectiveOperationException {
        constants();
        members();
        fieldsKeepToTheLanguage();
        methodsKeepToTheLanguage();
        Due.end();
    }

    private static void constants() throws ReflectiveOperationException {
        List<String> names = List.of("BAD_TASK", "BAD_SOURCE", "BAD_KIND", "FULL",
            "NOT_NEEDED", "UP_TO_DATE", "FROM_STORE", "EXECUTED");
        int[] values = {-1, -2, -3, -4, 0, 1, 2, 3};
        for (int i = 0; i < values.length; i++) {
            Field field = BuildGraph.class.getDeclaredField(names.get(i));
            Due.due(names.get(i), field.getInt(null), values[i]);
            Due.due("modifiers of " + names.get(i), field.getModifiers(), PUBLIC_CONSTANT);
        }
        Due.due("public fields", BuildGraph.class.getFields().length, values.length);
    }

    private static void members() {
        Class<?> face = BuildGraph.class;
        Due.due("modifiers of the class", face.getModifiers(), Modifier.PUBLIC | Modifier.FINAL);
        Due.due("nested classes", face.getDeclaredClasses().length, 0);
        Constructor<?>[] constructors = face.getDeclaredConstructors();
        Due.due("constructors", constructors.length, 1);
        Due.due("constructor's parameters", constructors[0].getParameterCount(), 0);
        Due.due("constructor's modifiers", constructors[0].getModifiers(), Modifier.PUBLIC);
        Set<String> want = new TreeSet<>(Arrays.asList(
            "int content 2", "int task 2", "int input 2", "int constant 2", "int build 1",
            "int clean 1", "void emptyStore 0", "int status 1", "int output 1", "int fresh 1",
            "int needed 1", "int work 1", "int executed 0", "int stale 0"));
        Set<String> got = new TreeSet<>();
        for (Method method : face.getDeclaredMethods()) {
            if (!Modifier.isPrivate(method.getModifiers())) {
                Due.due("modifiers of " + method, method.getModifiers(), Modifier.PUBLIC);
                got.add(method.getReturnType() + " " + method.getName() + " " + method.getParameterCount());
                for (Class<?> type : method.getParameterTypes()) {
                    Due.due("int parameter of " + method, type == int.class ? 1 : 0, 1);
                }
            }
        }
        Due.due("the public methods " + got + " are " + want, got.equals(want) ? 1 : 0, 1);
    }

    private static void fieldsKeepToTheLanguage() {
        int objectFields = 0;
        for (Field field : BuildGraph.class.getDeclaredFields()) {
            int modifiers = field.getModifiers();
            Class<?> type = field.getType();
            Due.due("allowed type of " + field, isAllowed(type) ? 1 : 0, 1);
            if (Modifier.isStatic(modifiers)) {
                Due.due("final " + field, Modifier.isFinal(modifiers) ? 1 : 0, 1);
                Due.due("number " + field, type == int.class || type == long.class ? 1 : 0, 1);
            } else {
                objectFields++;
            }
            if (!Modifier.isPrivate(modifiers)) {
                Due.due("modifiers of " + field, modifiers, PUBLIC_CONSTANT);
            }
        }
        Due.due("at most forty fields", objectFields <= 40 ? 1 : 0, 1);
    }

    private static boolean isAllowed(Class<?> type) {
        Class<?> plain = type.isArray() ? type.getComponentType() : type;
        return plain.isPrimitive() && plain != float.class && plain != double.class;
    }

    private static void methodsKeepToTheLanguage() {
        Set<String> names = new HashSet<>();
        for (Method method : BuildGraph.class.getDeclaredMethods()) {
            Due.due("one method named " + method.getName(), names.add(method.getName()) ? 1 : 0, 1);
            Due.due("at most seven parameters in " + method, method.getParameterCount() <= 7 ? 1 : 0, 1);
            Due.due("answers no array: " + method, method.getReturnType().isArray() ? 1 : 0, 0);
        }
    }
}
