import java.io.IOException;
import java.lang.reflect.InvocationTargetException;
import java.lang.reflect.Method;
import java.lang.reflect.Modifier;
import java.nio.charset.StandardCharsets;
import java.nio.file.Files;
import java.nio.file.Path;
import java.util.ArrayList;
import java.util.List;
import java.util.Set;
import java.util.TreeSet;
import java.util.regex.Matcher;
import java.util.regex.Pattern;

/** README.md shows every call of the face, and each call there answers what stands behind it. */
public final class StowPlanReadme {
    private static final Pattern NEW_SHIP =
        Pattern.compile("StowPlan plan = new StowPlan\\((\\d+), (\\d+), (\\d+)\\);.*");
    private static final Pattern CALL = Pattern.compile("plan\\.(\\w+)\\((.*)\\);\\s+// ([^:]+)(: .*)?");

    private static int wrong = 0;

    private static void tell(String text) {
        wrong++;
        System.out.println("README.md: " + text);
    }

    private static List<String> example() throws IOException {
        List<String> lines = new ArrayList<>();
        boolean inside = false;
        for (String line : Files.readAllLines(Path.of("README.md"), StandardCharsets.UTF_8)) {
            if (line.startsWith("```")) {
                inside = line.equals("```java");
            } else if (inside) {
                lines.add(line);
            }
        }
        return lines;
    }

    private static StowPlan newShip(String line) {
        Matcher m = NEW_SHIP.matcher(line);
        if (!m.matches()) {
            throw new AssertionError("README.md: its calls begin with no new object: " + line);
        }
        return new StowPlan(Integer.parseInt(m.group(1)), Integer.parseInt(m.group(2)), Integer.parseInt(m.group(3)));
    }

    private static Method methodNamed(String name) {
        for (Method method : StowPlan.class.getDeclaredMethods()) {
            if (Modifier.isPublic(method.getModifiers()) && method.getName().equals(name)) {
                return method;
            }
        }
        throw new AssertionError("README.md: no such call: " + name);
    }

    private static Object[] arguments(String told) {
        String[] texts = told.isEmpty() ? new String[0] : told.split(", ");
        Object[] arguments = new Object[texts.length];
        for (int i = 0; i < texts.length; i++) {
            boolean isBoolean = texts[i].equals("true") || texts[i].equals("false");
            arguments[i] = isBoolean ? Boolean.valueOf(texts[i]) : (Object) Integer.valueOf(texts[i]);
        }
        return arguments;
    }

    private static String answer(StowPlan plan, Method method, Object[] arguments) throws IllegalAccessException {
        try {
            return String.valueOf(method.invoke(plan, arguments));
        } catch (InvocationTargetException e) {
            return "throws " + e.getCause().getClass().getSimpleName();
        }
    }

    private static Set<String> namesOfFace() {
        Set<String> names = new TreeSet<>();
        for (Method method : StowPlan.class.getDeclaredMethods()) {
            if (Modifier.isPublic(method.getModifiers())) {
                names.add(method.getName());
            }
        }
        return names;
    }

    public static void main(String[] args) throws IOException, IllegalAccessException {
        List<String> lines = example();
        StowPlan plan = newShip(lines.isEmpty() ? "" : lines.get(0));
        Set<String> notShown = namesOfFace();
        for (String line : lines.subList(1, lines.size())) {
            Matcher m = CALL.matcher(line);
            if (!m.matches()) {
                tell("no call with its answer: " + line);
                continue;
            }
            notShown.remove(m.group(1));
            String got = answer(plan, methodNamed(m.group(1)), arguments(m.group(2)));
            if (!got.equals(m.group(3))) {
                tell(line + " - answered " + got);
            }
        }
        if (!notShown.isEmpty()) {
            tell("calls that are not shown: " + notShown);
        }
        System.out.println(lines.size() - 1 + " calls of README.md asked, " + wrong + " wrong");
        if (wrong != 0) {
            System.exit(1);
        }
    }
}
