import java.lang.reflect.Constructor;
import java.lang.reflect.Field;
import java.lang.reflect.Method;
import java.lang.reflect.Modifier;
import java.util.Arrays;
import java.util.Set;
import java.util.TreeSet;
import java.util.stream.Collectors;

/** The class's face is the document's, and the compiled class keeps to rule 1 of LANGUAGE.md. */
public final class FaceTest {
    private static final Set<String> METHODS = Set.of("boolean symbol(char, int)", "int type(long, int)",
            "int clause()", "int drop()", "int find(int)", "int more()", "int size()", "int value(char, int, int)",
            "int tries()", "int check()", "int caseOf(int)", "int clauses()");
    private static final Set<String> CONSTANTS = Set.of("int BAD = -1", "int NO = -2", "int FULL = -3", "int OUT = -4");

    private static int wrong = 0;

    public static void main(String[] args) throws IllegalAccessException {
        methods();
        constants();
        constructors();
        classesInside();
        System.out.println(wrong == 0 ? "the face is as due" : wrong + " faults in the face");
        if (wrong != 0) {
            System.exit(1);
        }
    }

    private static void methods() {
        Set<String> found = new TreeSet<>();
        Set<String> names = new TreeSet<>();
        for (Method method : StructureFinder.class.getDeclaredMethods()) {
            if (Modifier.isPrivate(method.getModifiers()) || method.isSynthetic()) {
                continue;
            }
            names.add(method.getName());
            String parameters = Arrays.stream(method.getParameterTypes()).map(Class::getSimpleName)
                    .collect(Collectors.joining(", "));
            found.add(method.getReturnType().getSimpleName() + " " + method.getName() + "(" + parameters + ")");
            due(method + " is public and no static one", Modifier.isPublic(method.getModifiers())
                    && !Modifier.isStatic(method.getModifiers()));
            due(method + " declares no exception", method.getExceptionTypes().length == 0);
        }
        due("methods: " + found, found.equals(METHODS));
        for (Class<?> type : withInside()) {
            for (Method method : type.getDeclaredMethods()) {
                boolean own = type == StructureFinder.class && Modifier.isPublic(method.getModifiers());
                due(method + " bears no public name", own || !names.contains(method.getName()));
            }
        }
    }

    private static void constants() throws IllegalAccessException {
        Set<String> found = new TreeSet<>();
        for (Field field : StructureFinder.class.getDeclaredFields()) {
            int modifiers = field.getModifiers();
            if (Modifier.isPrivate(modifiers)) {
                continue;
            }
            due(field + " is public and static", Modifier.isPublic(modifiers) && Modifier.isStatic(modifiers));
            found.add(field.getType() + " " + field.getName() + " = " + field.get(null));
        }
        due("constants: " + found, found.equals(CONSTANTS));
        for (Class<?> type : withInside()) {
            for (Field field : type.getDeclaredFields()) {
                int modifiers = field.getModifiers();
                due(field + " is final", !Modifier.isStatic(modifiers) || Modifier.isFinal(modifiers));
            }
        }
    }

    private static void constructors() {
        Constructor<?>[] made = StructureFinder.class.getDeclaredConstructors();
        due("one public constructor without arguments and exceptions", made.length == 1
                && Modifier.isPublic(made[0].getModifiers()) && made[0].getParameterCount() == 0
                && made[0].getExceptionTypes().length == 0);
    }

    private static void classesInside() {
        due("the class is public and final", Modifier.isPublic(StructureFinder.class.getModifiers())
                && Modifier.isFinal(StructureFinder.class.getModifiers()));
        due("the class stands for itself", StructureFinder.class.getSuperclass() == Object.class
                && StructureFinder.class.getInterfaces().length == 0
                && StructureFinder.class.getTypeParameters().length == 0);
        for (Class<?> type : StructureFinder.class.getDeclaredClasses()) {
            int modifiers = type.getModifiers();
            due(type + " is static and not public", Modifier.isStatic(modifiers)
                    && !Modifier.isPublic(modifiers) && !Modifier.isProtected(modifiers));
        }
    }

    private static Class<?>[] withInside() {
        Class<?>[] inside = StructureFinder.class.getDeclaredClasses();
        Class<?>[] all = Arrays.copyOf(inside, inside.length + 1);
        all[inside.length] = StructureFinder.class;
        return all;
    }

    private static void due(String what, boolean holds) {
        if (!holds) {
            wrong++;
            System.out.println("not so: " + what);
        }
    }
}
