import java.io.IOException;
import java.lang.reflect.Field;
import java.lang.reflect.Method;
import java.lang.reflect.Modifier;
import java.nio.file.Files;
import java.nio.file.Path;
import java.util.ArrayList;
import java.util.List;
import java.util.regex.Matcher;
import java.util.regex.Pattern;

/**
 * The calls shown in README.md answer what it says, and it leaves out no member
 * of the face. To be run from the folder in which README.md lies.
 */
public final class ReadmeTest {
    private static final String NEW_OBJECT = "PathAlgebra x = new PathAlgebra();";
    private static final Pattern CALL = Pattern.compile("x\\.(\\w+)\\(([^)]*)\\);(?:\\s+// (-?\\w+).*)?");

    private static int wrong = 0;

    private static void fault(String what) {
        wrong++;
        System.out.println("README.md: " + what);
    }

    private static List<String> shownLines(List<String> readme) {
        List<String> shown = new ArrayList<>();
        boolean inside = false;
        for (String line : readme) {
            if (line.startsWith("```")) {
                inside = line.equals("```java");
            } else if (inside && !line.isBlank()) {
                shown.add(line.strip());
            }
        }
        return shown;
    }

    /** A number, or a sum as 'ends' is written: from + 8 * to. */
    private static int number(String text) {
        int sum = 0;
        for (String part : text.split("\\+")) {
            int product = 1;
            for (String factor : part.split("\\*")) {
                product *= Integer.parseInt(factor.strip());
            }
            sum += product;
        }
        return sum;
    }

    private static Object[] arguments(String text) {
        List<Object> values = new ArrayList<>();
        for (String part : text.split(",")) {
            String one = part.strip();
            if (one.equals("true") || one.equals("false")) {
                values.add(Boolean.valueOf(one));
            } else if (!one.isEmpty()) {
                values.add(number(one));
            }
        }
        return values.toArray();
    }

    private static Method methodNamed(String name) {
        for (Method m : PathAlgebra.class.getDeclaredMethods()) {
            if (Modifier.isPublic(m.getModifiers()) && m.getName().equals(name)) {
                return m;
            }
        }
        throw new IllegalStateException("README.md shows a call that there is not: " + name);
    }

    private static void makeCall(PathAlgebra x, String line) throws ReflectiveOperationException {
        Matcher call = CALL.matcher(line);
        if (!call.matches()) {
            fault("no call can be read from: " + line);
            return;
        }
        Object answer = methodNamed(call.group(1)).invoke(x, arguments(call.group(2)));
        String got = answer == null ? "null" : answer.toString();
        String said = call.group(3) == null ? "null" : call.group(3);
        if (!got.equals(said)) {
            fault("'" + line + "' says " + said + ", the call answers " + got);
        }
    }

    private static void makeCalls(List<String> lines) throws ReflectiveOperationException {
        PathAlgebra x = null;
        for (String line : lines) {
            if (line.equals(NEW_OBJECT)) {
                x = new PathAlgebra();
            } else if (x == null) {
                fault("a call ahead of the first object: " + line);
            } else {
                makeCall(x, line);
            }
        }
        if (x == null) {
            fault("no object is made");
        }
    }

    private static void dueAllMembers(String shown, String all) {
        for (Method m : PathAlgebra.class.getDeclaredMethods()) {
            if (Modifier.isPublic(m.getModifiers()) && !shown.contains("x." + m.getName() + "(")) {
                fault("no call is shown of " + m.getName());
            }
        }
        for (Field f : PathAlgebra.class.getDeclaredFields()) {
            if (Modifier.isPublic(f.getModifiers()) && !all.contains("`" + f.getName() + "`")) {
                fault("nothing is said of " + f.getName());
            }
        }
    }

    public static void main(String[] args) throws IOException, ReflectiveOperationException {
        List<String> readme = Files.readAllLines(Path.of("README.md"));
        List<String> shown = shownLines(readme);
        makeCalls(shown);
        dueAllMembers(String.join("\n", shown), String.join("\n", readme));
        System.out.println(wrong == 0 ? "README.md is as due" : wrong + " things in README.md are not as due");
        if (wrong != 0) {
            System.exit(1);
        }
    }
}
