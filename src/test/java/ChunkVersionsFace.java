import java.lang.reflect.Constructor;
import java.lang.reflect.Field;
import java.lang.reflect.Method;
import java.lang.reflect.Modifier;
import java.util.Set;
import java.util.TreeSet;

/** The class has the document's public face, and keeps the rules of LANGUAGE.md that reflection can see. */
public final class ChunkVersionsFace {
    private static final String[] FACE = {
        "put 2", "delete 1", "spread 3", "commit 0", "reset 0", "checkout 1", "change 1", "branch 1",
        "merge 2", "pick 2", "commits 0", "current 0", "head 1", "parent 2", "clean 0", "has 1",
        "value 1", "hasIn 2", "valueIn 2", "size 1", "differing 2", "nextDifference 3", "base 2",
        "ancestors 1", "conflicts 2",
    };

    private static int wrong = 0;

    private static void check(boolean holds, String what) {
        if (!holds) {
            wrong++;
            System.out.println(what);
        }
    }

    private static void checkClass() {
        int modifiers = ChunkVersions.class.getModifiers();
        check(Modifier.isPublic(modifiers), "the class is not public");
        check(Modifier.isFinal(modifiers), "the class is not final");
        check(ChunkVersions.class.getPackageName().isEmpty(), "the class is in a package");
        check(ChunkVersions.class.getSuperclass() == Object.class, "the class extends another");
        check(ChunkVersions.class.getInterfaces().length == 0, "the class implements an interface");
        check(ChunkVersions.class.getDeclaredClasses().length == 0, "the class has nested classes");
        Constructor<?>[] made = ChunkVersions.class.getDeclaredConstructors();
        check(made.length == 1 && made[0].getParameterCount() == 0 && Modifier.isPublic(made[0].getModifiers()),
            "the constructors are not those of the document");
    }

    private static void checkMethods() {
        Set<String> publicOnes = new TreeSet<>();
        Set<String> publicNames = new TreeSet<>();
        for (Method method : ChunkVersions.class.getDeclaredMethods()) {
            if (Modifier.isPrivate(method.getModifiers())) {
                continue;
            }
            publicOnes.add(method.getName() + " " + method.getParameterCount());
            publicNames.add(method.getName());
            check(method.getModifiers() == Modifier.PUBLIC, "not plainly public: " + method);
            check(method.getReturnType() == int.class, "does not answer an int: " + method);
            for (Class<?> type : method.getParameterTypes()) {
                check(type == int.class, "takes something else than ints: " + method);
            }
        }
        check(publicOnes.equals(new TreeSet<>(Set.of(FACE))), "the public methods are " + publicOnes);
        for (Method method : ChunkVersions.class.getDeclaredMethods()) {
            check(!Modifier.isPrivate(method.getModifiers()) || !publicNames.contains(method.getName()),
                "a private method bears a public name: " + method);
            check(method.getParameterCount() <= 7, "too many parameters: " + method);
        }
    }

    private static void checkFields() {
        for (Field field : ChunkVersions.class.getDeclaredFields()) {
            check(Modifier.isPrivate(field.getModifiers()), "not private: " + field);
            if (Modifier.isStatic(field.getModifiers())) {
                check(Modifier.isFinal(field.getModifiers()), "static and not a constant: " + field);
                check(field.getType() == int.class || field.getType() == long.class, "neither int nor long: " + field);
            } else {
                Class<?> type = field.getType().isArray() ? field.getType().getComponentType() : field.getType();
                check(type.isPrimitive() && type != float.class && type != double.class,
                    "neither numbers nor a row of them: " + field);
            }
        }
    }

    public static void main(String[] args) {
        checkClass();
        checkMethods();
        checkFields();
        System.out.println(wrong == 0 ? "the face is as due" : wrong + " things are not as due");
        if (wrong != 0) {
            System.exit(1);
        }
    }
}
