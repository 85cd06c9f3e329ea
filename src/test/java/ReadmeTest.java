import java.io.IOException;
import java.lang.reflect.Method;
import java.lang.reflect.Modifier;
import java.nio.file.Files;
import java.nio.file.Path;
import java.util.List;
import java.util.Map;
import java.util.Set;
import java.util.TreeSet;
import java.util.regex.Matcher;
import java.util.regex.Pattern;

/** The run of calls that README.md shows answers what it says, and its table has every call. */
public final class ReadmeTest {

    private static final Path PAGE = Path.of("README.md");
    private static final String MAKING = "Opticmesh mesh = new Opticmesh();";
    private static final Pattern CALL = Pattern.compile("mesh\\.(\\w+)\\(([^)]*)\\); *// (\\S[^:]*)(: .+)?");
    private static final Pattern ROW = Pattern.compile("\\| `(\\w+)\\(([^)]*)\\)` \\|.*");

    private static final Map<String, Method> CALLS = ByName.methodsOf(Opticmesh.class);

    public static void main(String[] args) throws IOException, IllegalAccessException {
        List<String> page = Files.readAllLines(PAGE);
        shownRun(page);
        tableOfCalls(page);
        Check.end("ReadmeTest");
    }

    private static void shownRun(List<String> page) throws IllegalAccessException {
        int start = page.indexOf("```java");
        int end = page.lastIndexOf("```");
        Check.same("README.md shows a run of calls", 1, start >= 0 && end > start + 1 ? 1 : 0);
        if (!Check.allRight()) {
            return;
        }
        Check.same("the run begins by making an object", MAKING, page.get(start + 1));
        Opticmesh mesh = new Opticmesh();
        for (String line : page.subList(start + 2, end)) {
            if (!line.isEmpty()) {
                oneCall(mesh, line);
            }
        }
    }

    private static void oneCall(Opticmesh mesh, String line) throws IllegalAccessException {
        Matcher told = CALL.matcher(line);
        boolean isCall = told.matches() && isInFace(told.group(1), told.group(2));
        Check.same(line + " is a call with its answer", 1, isCall ? 1 : 0);
        if (isCall) {
            Object[] arguments = numbers(told.group(2));
            Check.same(line, asAnswer(told.group(3)), ByName.answer(CALLS.get(told.group(1)), mesh, arguments));
        }
    }

    private static void tableOfCalls(List<String> page) {
        Set<String> missing = new TreeSet<>(CALLS.keySet());
        missing.removeIf(name -> !Modifier.isPublic(CALLS.get(name).getModifiers()));
        for (String line : page) {
            Matcher told = ROW.matcher(line);
            if (told.matches()) {
                boolean isNew = missing.remove(told.group(1)) && isInFace(told.group(1), told.group(2));
                Check.same(line + " is a call, told once", 1, isNew ? 1 : 0);
            }
        }
        Check.same("missing in README.md's table: " + missing, 0, missing.size());
    }

    private static boolean isInFace(String name, String arguments) {
        Method method = CALLS.get(name);
        return method != null && Modifier.isPublic(method.getModifiers())
                && method.getParameterCount() == parts(arguments).length;
    }

    private static String[] parts(String arguments) {
        return arguments.isEmpty() ? new String[0] : arguments.split(", ");
    }

    private static Object[] numbers(String arguments) {
        String[] parts = parts(arguments);
        Object[] numbers = new Object[parts.length];
        for (int place = 0; place < parts.length; place++) {
            numbers[place] = Integer.valueOf(parts[place]);
        }
        return numbers;
    }

    private static String asAnswer(String told) {
        if (told.equals("nothing")) {
            return "null";
        }
        return told.startsWith("throws ") ? "java.lang." + told.substring("throws ".length()) : told;
    }
}
