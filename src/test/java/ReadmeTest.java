import java.io.IOException;
import java.lang.reflect.Method;
import java.nio.file.Files;
import java.nio.file.Path;
import java.util.Arrays;
import java.util.Set;
import java.util.TreeSet;
import java.util.regex.Matcher;
import java.util.regex.Pattern;

/** The example in README.md has every call of the face, and each answers what stands behind it. */
public final class ReadmeTest {
    private static final Pattern LINE = Pattern.compile("f\\.(\\w+)\\((.*)\\); +// (\\S+?)(:.*)?");

    private static int wrong = 0;

    public static void main(String[] args) throws IOException, ReflectiveOperationException {
        Path readme = Path.of(args[0]).resolve("../../../../README.md").normalize();
        StructureFinder finder = new StructureFinder();
        Set<String> called = new TreeSet<>();
        String example = Files.readString(readme).split("```java\n|```\n")[1];
        for (String line : example.split("\n")) {
            Matcher call = LINE.matcher(line);
            if (call.matches()) {
                called.add(call.group(1));
                due(line, answer(finder, call.group(1), call.group(2)), call.group(3));
            } else {
                due("the line that makes the object", line, "StructureFinder f = new StructureFinder();");
            }
        }
        for (Method method : StructureFinder.class.getMethods()) {
            if (method.getDeclaringClass() == StructureFinder.class) {
                due("the example calls " + method.getName(), "" + called.contains(method.getName()), "true");
            }
        }
        System.out.println(wrong == 0 ? "the example answers as it says" : wrong + " lines do not");
        if (wrong != 0) {
            System.exit(1);
        }
    }

    private static String answer(StructureFinder finder, String name, String arguments)
            throws ReflectiveOperationException {
        Method method = Arrays.stream(StructureFinder.class.getMethods())
                .filter(one -> one.getName().equals(name)).findFirst().orElseThrow();
        String[] texts = arguments.isEmpty() ? new String[0] : arguments.split(", ");
        Object[] values = new Object[texts.length];
        for (int i = 0; i < texts.length; i++) {
            values[i] = argument(texts[i]);
        }
        return named(method.invoke(finder, values));
    }

    private static Object argument(String text) {
        if (text.startsWith("'")) {
            return text.charAt(1);
        }
        if (text.endsWith("L")) {
            return Long.decode(text.substring(0, text.length() - 1));
        }
        return Integer.decode(text);
    }

    private static String named(Object answer) throws ReflectiveOperationException {
        for (String name : new String[] {"BAD", "NO", "FULL", "OUT"}) {
            if (StructureFinder.class.getField(name).get(null).equals(answer)) {
                return name;
            }
        }
        return answer.toString();
    }

    private static void due(String what, String got, String want) {
        if (!got.equals(want)) {
            wrong++;
            System.out.println(what + ": " + got + ", due is " + want);
        }
    }
}
