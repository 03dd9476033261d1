import java.lang.reflect.Method;
import java.nio.file.Files;
import java.nio.file.Path;
import java.util.HashSet;
import java.util.Set;
import java.util.regex.Matcher;
import java.util.regex.Pattern;

/** What README.md shows of the class is what the class answers, and each call of the face is shown once or more. */
public final class ReadmeRuns extends Talk {
    private static final Pattern TOLD = Pattern.compile("tell\\(guard, \"(.*)\"\\);");
    private static final Pattern SHOWN = Pattern.compile("guard\\.(\\w+)\\((.*?)\\); +// (-?\\d+)\\b.*");

    public static void main(String[] args) throws Exception {
        says(0, "README.md says how to use the class");
        Path source = Path.of(System.getProperty("guard.source"));
        Path readme = source.resolve("../../../../README.md").normalize();
        Set<String> shown = runExample(Files.readAllLines(readme));
        for (Method method : GrammarGuard.class.getMethods()) {
            if (method.getDeclaringClass() == GrammarGuard.class) {
                due("README.md shows " + method.getName(), shown.contains(method.getName()) ? 1 : 0, 1);
            }
        }
        end();
    }

    private static Set<String> runExample(Iterable<String> lines) throws Exception {
        Set<String> shown = new HashSet<>();
        GrammarGuard guard = new GrammarGuard();
        boolean inside = false;
        for (String line : lines) {
            if (line.startsWith("```")) {
                inside = line.equals("```java");
            } else if (inside) {
                runLine(guard, line, shown);
            }
        }
        return shown;
    }

    private static void runLine(GrammarGuard guard, String line, Set<String> shown) throws Exception {
        Matcher told = TOLD.matcher(line);
        if (told.matches()) {
            tell(guard, told.group(1));
            return;
        }
        Matcher call = SHOWN.matcher(line);
        if (call.matches()) {
            shown.add(call.group(1));
            due(line, answer(guard, call.group(1), call.group(2)), Long.parseLong(call.group(3)));
        } else if (line.startsWith("guard.")) {
            due("a line that tells its answer: " + line, 0, 1);
        }
    }

    private static long answer(GrammarGuard guard, String name, String arguments) throws Exception {
        for (Method method : GrammarGuard.class.getMethods()) {
            if (method.getName().equals(name)) {
                return ((Number) method.invoke(guard, read(arguments, method.getParameterTypes()))).longValue();
            }
        }
        return Long.MIN_VALUE;
    }

    private static Object[] read(String arguments, Class<?>[] types) {
        Object[] values = new Object[types.length];
        String[] texts = arguments.split(", ");
        for (int i = 0; i < types.length; i++) {
            long value = texts[i].startsWith("'") ? texts[i].charAt(1) : Long.parseLong(texts[i]);
            values[i] = types[i] == long.class ? (Object) value : (Object) (int) value;
        }
        return values;
    }
}
