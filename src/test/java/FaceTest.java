import java.lang.reflect.Constructor;
import java.lang.reflect.Field;
import java.lang.reflect.Method;
import java.lang.reflect.Modifier;
import java.util.Set;
import java.util.TreeSet;

// The public face is the document's and no more, and the members keep to the rules of
// LANGUAGE.md that reflection can see (1, 2, 5 and 10).
public final class FaceTest {
    private static int wrong = 0;

    private static void must(boolean holds, String what) {
        if (!holds) {
            wrong++;
            System.out.println("not so: " + what);
        }
    }

    private static boolean isPlain(Class<?> type) {
        Class<?> base = type.isArray() ? type.getComponentType() : type;
        return base.isPrimitive() && base != float.class && base != double.class;
    }

    private static String signature(Method method) {
        StringBuilder text = new StringBuilder(method.getReturnType() + " " + method.getName() + "(");
        String between = "";
        for (Class<?> type : method.getParameterTypes()) {
            text.append(between).append(type);
            between = ", ";
        }
        return text.append(")").toString();
    }

    private static void methods() {
        Set<String> due = new TreeSet<>(Set.of(
                "int begin(int, boolean)", "long read(int, int)", "int next(int, int)",
                "long sum(int, int, int)", "int write(int, int, int, boolean)", "int save(int)",
                "int undo(int)", "int commit(int)", "int rollback(int)", "int sync()", "int crash()",
                "long row(int)", "boolean seen(int, int)", "int savepoints(int)", "int count(int)"));
        Set<String> found = new TreeSet<>();
        Set<String> publicNames = new TreeSet<>();
        for (Method method : SerializableStore.class.getDeclaredMethods()) {
            if (!Modifier.isPrivate(method.getModifiers())) {
                must(Modifier.isPublic(method.getModifiers()), method + " is public or private");
                must(!Modifier.isStatic(method.getModifiers()), method + " is not static");
                found.add(signature(method));
                publicNames.add(method.getName());
            }
        }
        must(found.equals(due), "the public methods are " + due + ", found " + found);
        for (Method method : SerializableStore.class.getDeclaredMethods()) {
            boolean isPrivate = Modifier.isPrivate(method.getModifiers());
            must(!isPrivate || !publicNames.contains(method.getName()), method + " has a name of its own");
            must(method.getParameterCount() <= 7, method + " has at most seven parameters");
            must(method.getExceptionTypes().length == 0, method + " throws nothing");
            must(!method.getReturnType().isArray(), method + " answers no array");
            for (Class<?> type : method.getParameterTypes()) {
                must(isPlain(type), method + " takes numbers and arrays of them");
            }
        }
    }

    private static void constructors() {
        Constructor<?>[] found = SerializableStore.class.getDeclaredConstructors();
        must(found.length == 1, "there is one constructor");
        must(Modifier.isPublic(found[0].getModifiers()), "the constructor is public");
        must(found[0].getParameterCount() == 1 && found[0].getParameterTypes()[0] == int.class,
                "the constructor takes an int");
    }

    private static void constant(String name, Class<?> type, long value) {
        try {
            Field field = SerializableStore.class.getField(name);
            must(field.getType() == type, name + " is of type " + type);
            must(field.getLong(null) == value, name + " is " + value);
        } catch (ReflectiveOperationException missing) {
            must(false, name + " is there");
        }
    }

    private static void fields() {
        constant("REFUSED", int.class, -1L);
        constant("DONE", int.class, 0L);
        constant("LOCKED", int.class, 1L);
        constant("CONFLICT", int.class, 2L);
        constant("FAILURE", int.class, 3L);
        constant("FULL", int.class, 4L);
        constant("ABSENT", long.class, 1000000000000L);
        constant("NONE", long.class, -1000000000000L);
        int publicFields = 0;
        int objectFields = 0;
        for (Field field : SerializableStore.class.getDeclaredFields()) {
            int modifiers = field.getModifiers();
            boolean isStatic = Modifier.isStatic(modifiers);
            must(isPlain(field.getType()), field + " is a number or an array of them");
            if (isStatic) {
                must(Modifier.isFinal(modifiers), field + " is final");
                must(field.getType() == int.class || field.getType() == long.class, field + " is int or long");
            } else {
                objectFields++;
                must(Modifier.isPrivate(modifiers), field + " is private");
            }
            if (!Modifier.isPrivate(modifiers)) {
                publicFields++;
                must(Modifier.isPublic(modifiers) && isStatic, field + " is a public constant");
            }
        }
        must(publicFields == 8, "there are eight public constants");
        must(objectFields <= 40, "there are at most forty fields");
    }

    public static void main(String[] args) {
        int modifiers = SerializableStore.class.getModifiers();
        must(Modifier.isPublic(modifiers) && Modifier.isFinal(modifiers), "the class is public and final");
        must(SerializableStore.class.getSuperclass() == Object.class, "the class extends nothing");
        must(SerializableStore.class.getInterfaces().length == 0, "the class implements nothing");
        must(SerializableStore.class.getDeclaredClasses().length == 0, "the class has no nested class");
        methods();
        constructors();
        fields();
        System.out.println(wrong == 0 ? "the face is as due" : wrong + " points of the face are not as due");
        if (wrong != 0) {
            System.exit(1);
        }
    }
}
