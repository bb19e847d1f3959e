import java.io.IOException;
import java.lang.reflect.Method;
import java.lang.reflect.Modifier;
import java.nio.file.Files;
import java.nio.file.Path;
import java.util.List;
import java.util.Set;
import java.util.TreeSet;
import java.util.regex.Matcher;
import java.util.regex.Pattern;

/**
 * Reads the example of README.md and makes its calls, in its order: each must answer what the
 * README says behind it, and each method of the face must be shown.
 */
public final class ReadmeTest extends Checks {
    private static final Pattern CALL = Pattern.compile("plans\\.(\\w+)\\((.*)\\); +// (-?\\w+): .+");

    public static void main(String[] args) throws IOException {
        List<String> lines = example(Files.readAllLines(Path.of("README.md")));
        test("the example of README.md", () -> makeCalls(lines));
        end();
    }

    private static List<String> example(List<String> readme) {
        int start = readme.indexOf("```java");
        int end = readme.indexOf("```");
        return start < 0 || end < start ? List.of() : readme.subList(start + 1, end);
    }

    private static void makeCalls(List<String> lines) {
        if (lines.isEmpty() || !lines.get(0).equals("RecipePlans plans = new RecipePlans();")) {
            fail("there is no example that begins with a new object");
            return;
        }
        RecipePlans plans = new RecipePlans();
        Set<String> shown = new TreeSet<>();
        for (String line : lines.subList(1, lines.size())) {
            Matcher call = CALL.matcher(line);
            if (!call.matches()) {
                fail("not a call with its answer: " + line);
                continue;
            }
            shown.add(call.group(1));
            String got = answer(plans, call.group(1), call.group(2));
            if (!got.equals(call.group(3))) fail(line + " - but it answers " + got);
        }
        for (Method method : RecipePlans.class.getDeclaredMethods()) {
            if (Modifier.isPublic(method.getModifiers()) && !shown.contains(method.getName())) {
                fail(method.getName() + " is not shown");
            }
        }
    }

    private static String answer(RecipePlans plans, String name, String inBrackets) {
        String[] words = inBrackets.isEmpty() ? new String[0] : inBrackets.split(", ");
        for (Method method : RecipePlans.class.getMethods()) {
            if (!method.getName().equals(name) || method.getParameterCount() != words.length) continue;
            Object[] values = new Object[words.length];
            for (int i = 0; i < words.length; i++) {
                boolean isLong = method.getParameterTypes()[i] == long.class;
                if (isLong) values[i] = Long.valueOf(words[i]);
                else values[i] = Integer.valueOf(words[i]);
            }
            try {
                return String.valueOf(method.invoke(plans, values));
            } catch (ReflectiveOperationException e) {
                return "by throwing " + e.getCause();
            }
        }
        return "nothing, as there is no such call";
    }
}
