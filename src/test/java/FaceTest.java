import java.lang.reflect.Constructor;
import java.lang.reflect.Field;
import java.lang.reflect.Method;
import java.lang.reflect.Modifier;
import java.util.Set;
import java.util.StringJoiner;
import java.util.TreeSet;

/** The first lines of the document: the class, its constructor and its methods as they stand there, and none beyond. */
public final class FaceTest {
    private static final Class<?> PROGRAM = GridLedger.class;
    private static final String BAD = "IllegalArgumentException";
    private static final String REFUSED = "IllegalStateException";
    private static final String NONE = "NoSuchElementException";
    private static final String[] FACE = {
        "int feed(int, int, int, int, int) throws IndexOutOfBoundsException",
        "int end(int) throws " + BAD,
        "int put(int, int) throws " + BAD + ", " + REFUSED,
        "int fill(int, int, int, int, int, int) throws " + BAD + ", " + REFUSED,
        "int insert(boolean, int, int) throws " + BAD + ", " + REFUSED,
        "int erase(boolean, int, int) throws " + BAD + ", " + REFUSED,
        "int undo() throws " + REFUSED,
        "int redo() throws " + REFUSED,
        "long value(int, int, int) throws " + BAD,
        "int letter(int, int, int) throws " + BAD + ", " + NONE,
        "int content(int, int, int) throws " + BAD,
        "int reference(int, int, int) throws " + BAD + ", " + NONE,
        "int changed(int) throws " + NONE,
        "int count(int) throws "
    };

    public static void main(String[] args) {
        Check.sentence("public final class GridLedger", FaceTest::theClass);
        Check.sentence("public GridLedger()", FaceTest::theConstructor);
        Check.sentence("the methods as they stand there", FaceTest::theMethods);
        Check.sentence("no other member can be seen", FaceTest::nothingElse);
        Check.sentence("the classes inside are private or package-visible, and static", FaceTest::classesInside);
        Check.sentence("no private method bears the name of a public one", FaceTest::privateNames);
        Check.sentence("static fields are final", FaceTest::staticFields);
        Check.sentence("at most seven parameters, some twenty fields", FaceTest::sizes);
        Check.finish();
    }

    private static void theClass() {
        Check.same("the class", Modifier.toString(PROGRAM.getModifiers()), "public final");
        Check.same("its package", PROGRAM.getPackageName(), "");
        Check.same("what it extends", PROGRAM.getSuperclass(), Object.class);
        Check.same("what it implements", PROGRAM.getInterfaces().length, 0);
    }

    private static void theConstructor() {
        Check.same("constructors", PROGRAM.getDeclaredConstructors().length, 1);
        for (Constructor<?> one : PROGRAM.getDeclaredConstructors()) {
            Check.same("constructor", Modifier.toString(one.getModifiers()), "public");
            Check.same("its parameters", one.getParameterCount(), 0);
            Check.same("its exceptions", one.getExceptionTypes().length, 0);
        }
    }

    private static void theMethods() {
        Set<String> got = new TreeSet<>();
        for (Method method : PROGRAM.getDeclaredMethods()) {
            if (!Modifier.isPrivate(method.getModifiers())) {
                Check.same(method.getName(), Modifier.toString(method.getModifiers()), "public");
                got.add(told(method));
            }
        }
        Check.same("methods", String.join("\n", got), String.join("\n", new TreeSet<>(Set.of(FACE))));
    }

    private static String told(Method method) {
        StringJoiner takes = new StringJoiner(", ", "(", ")");
        for (Class<?> type : method.getParameterTypes()) {
            takes.add(type.getSimpleName());
        }
        StringJoiner exceptions = new StringJoiner(", ", " throws ", "");
        for (Class<?> type : method.getExceptionTypes()) {
            exceptions.add(type.getSimpleName());
        }
        return method.getReturnType() + " " + method.getName() + takes + exceptions;
    }

    private static void nothingElse() {
        for (Field field : PROGRAM.getDeclaredFields()) {
            Check.same(field.getName(), Modifier.isPrivate(field.getModifiers()), true);
        }
    }

    private static void classesInside() {
        Class<?>[] inside = PROGRAM.getDeclaredClasses();
        Check.same("some twelve classes", inside.length <= 12, true);
        for (Class<?> one : inside) {
            int modifiers = one.getModifiers();
            boolean seen = Modifier.isPublic(modifiers) || Modifier.isProtected(modifiers);
            Check.same(one.getSimpleName() + " is seen", seen, false);
            Check.same(one.getSimpleName() + " is static", Modifier.isStatic(modifiers), true);
        }
    }

    private static void privateNames() {
        Set<String> open = new TreeSet<>();
        for (String line : FACE) {
            open.add(line.substring(line.indexOf(' ') + 1, line.indexOf('(')));
        }
        lookAtPrivateNames(PROGRAM, open);
        for (Class<?> one : PROGRAM.getDeclaredClasses()) {
            lookAtPrivateNames(one, open);
        }
    }

    private static void lookAtPrivateNames(Class<?> one, Set<String> open) {
        for (Method method : one.getDeclaredMethods()) {
            boolean hidden = Modifier.isPrivate(method.getModifiers());
            Check.same(one.getSimpleName() + "." + method.getName(), hidden && open.contains(method.getName()), false);
        }
    }

    private static void staticFields() {
        lookAtStaticFields(PROGRAM);
        for (Class<?> one : PROGRAM.getDeclaredClasses()) {
            lookAtStaticFields(one);
        }
    }

    private static void lookAtStaticFields(Class<?> one) {
        for (Field field : one.getDeclaredFields()) {
            if (Modifier.isStatic(field.getModifiers())) {
                Check.same(one.getSimpleName() + "." + field.getName(), Modifier.isFinal(field.getModifiers()), true);
            }
        }
    }

    private static void sizes() {
        lookAtSizes(PROGRAM);
        for (Class<?> one : PROGRAM.getDeclaredClasses()) {
            lookAtSizes(one);
        }
    }

    private static void lookAtSizes(Class<?> one) {
        int fields = 0;
        for (Field field : one.getDeclaredFields()) {
            fields += Modifier.isStatic(field.getModifiers()) ? 0 : 1;
        }
        Check.same(one.getSimpleName() + " has at most twenty fields", fields <= 20, true);
        for (Method method : one.getDeclaredMethods()) {
            Check.same(one.getSimpleName() + "." + method.getName(), method.getParameterCount() <= 7, true);
        }
    }
}
