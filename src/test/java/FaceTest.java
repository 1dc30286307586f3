import java.io.IOException;
import java.lang.reflect.Constructor;
import java.lang.reflect.Field;
import java.lang.reflect.Method;
import java.lang.reflect.Modifier;
import java.nio.file.Files;
import java.nio.file.Path;
import java.util.Arrays;
import java.util.Set;
import java.util.TreeSet;
import java.util.regex.Matcher;
import java.util.regex.Pattern;
import java.util.stream.Collectors;

/** The class's face is the document's, and its text keeps to rules of LANGUAGE.md that a text can be asked for. */
public final class FaceTest {
    private static final Set<String> METHODS = Set.of("boolean symbol(char, int)", "int type(long, int)",
            "int clause()", "int drop()", "int find(int)", "int more()", "int size()", "int value(char, int, int)",
            "int tries()", "int check()", "int caseOf(int)", "int clauses()");
    private static final Set<String> CONSTANTS = Set.of("BAD=-1", "NO=-2", "FULL=-3", "OUT=-4");
    private static final String[] RULED_OUT = {"->", "::", "\\bfinally\\b", "\\bsynchronized\\b", "\\bassert\\b",
        "\\bSystem\\.(?!arraycopy)", "\\bthread", "\\bThread", "\\bMath\\.\\w+Exact", "\\bstatic\\s*\\{",
        "^package", "\\bimport (?!java\\.util\\.(Arrays|ArrayList|List);)", "\\bObject\\b", "\\bthrow\\b"};

    private static int wrong = 0;

    public static void main(String[] args) throws IOException, IllegalAccessException {
        methods();
        constants();
        constructors();
        classesInside();
        text(Files.readString(Path.of(args[0])));
        System.out.println(wrong == 0 ? "the face is as due" : wrong + " faults in the face");
        if (wrong != 0) {
            System.exit(1);
        }
    }

    private static void methods() {
        Set<String> found = new TreeSet<>();
        Set<String> names = new TreeSet<>();
        for (Method method : StructureFinder.class.getDeclaredMethods()) {
            if (Modifier.isPrivate(method.getModifiers()) || method.isSynthetic()) {
                continue;
            }
            names.add(method.getName());
            String parameters = Arrays.stream(method.getParameterTypes()).map(Class::getSimpleName)
                    .collect(Collectors.joining(", "));
            found.add(method.getReturnType().getSimpleName() + " " + method.getName() + "(" + parameters + ")");
            due(method + " is public and no static one", Modifier.isPublic(method.getModifiers())
                    && !Modifier.isStatic(method.getModifiers()));
        }
        due("methods: " + found, found.equals(METHODS));
        for (Class<?> type : withInside()) {
            for (Method method : type.getDeclaredMethods()) {
                boolean own = type == StructureFinder.class && Modifier.isPublic(method.getModifiers());
                due(method + " bears no public name", own || !names.contains(method.getName()));
                due(method + " has seven parameters at most", method.getParameterCount() <= 7);
            }
        }
    }

    private static void constants() throws IllegalAccessException {
        Set<String> found = new TreeSet<>();
        for (Field field : StructureFinder.class.getDeclaredFields()) {
            int modifiers = field.getModifiers();
            if (Modifier.isPrivate(modifiers)) {
                continue;
            }
            due(field + " is public", Modifier.isPublic(modifiers));
            found.add(field.getName() + "=" + field.get(null));
        }
        due("constants: " + found, found.equals(CONSTANTS));
        for (Class<?> type : withInside()) {
            for (Field field : type.getDeclaredFields()) {
                int modifiers = field.getModifiers();
                due(field + " is final", !Modifier.isStatic(modifiers) || Modifier.isFinal(modifiers));
            }
        }
    }

    private static void constructors() {
        Constructor<?>[] made = StructureFinder.class.getDeclaredConstructors();
        due("one public constructor without arguments", made.length == 1
                && Modifier.isPublic(made[0].getModifiers()) && made[0].getParameterCount() == 0);
    }

    private static void classesInside() {
        due("the class is public and final", Modifier.isPublic(StructureFinder.class.getModifiers())
                && Modifier.isFinal(StructureFinder.class.getModifiers()));
        due("twelve classes at most", withInside().length <= 12);
        for (Class<?> type : StructureFinder.class.getDeclaredClasses()) {
            int modifiers = type.getModifiers();
            due(type + " is static and not public", Modifier.isStatic(modifiers)
                    && !Modifier.isPublic(modifiers) && !Modifier.isProtected(modifiers));
        }
        for (Class<?> type : withInside()) {
            long fields = Arrays.stream(type.getDeclaredFields())
                    .filter(field -> !Modifier.isStatic(field.getModifiers())).count();
            due(type + " has twenty fields at most", fields <= 20);
        }
    }

    private static void text(String source) {
        for (String ruledOut : RULED_OUT) {
            Matcher matcher = Pattern.compile(ruledOut, Pattern.MULTILINE).matcher(source);
            due("the text has no " + ruledOut, !matcher.find());
        }
    }

    private static Class<?>[] withInside() {
        Class<?>[] inside = StructureFinder.class.getDeclaredClasses();
        Class<?>[] all = Arrays.copyOf(inside, inside.length + 1);
        all[inside.length] = StructureFinder.class;
        return all;
    }

    private static void due(String what, boolean holds) {
        if (!holds) {
            wrong++;
            System.out.println("not so: " + what);
        }
    }
}
