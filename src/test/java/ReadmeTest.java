import java.io.IOException;
import java.lang.reflect.Method;
import java.lang.reflect.Modifier;
import java.nio.file.Files;
import java.nio.file.Path;
import java.util.ArrayList;
import java.util.List;
import java.util.regex.Matcher;
import java.util.regex.Pattern;

/** What README.md says of how to use the class is so. Run from the root. */
public final class ReadmeTest {
    private static final Due DUE = new Due();
    private static final Pattern TEXT = Pattern.compile("String text = \"([^\"]*)\";");
    private static final Pattern ROW = Pattern.compile("(?m)^x\\.(\\w+)\\(([^)]*)\\);\\s*// (-?\\d+):");

    public static void main(String[] args) throws IOException {
        String readme = Files.readString(Path.of("README.md"));
        DUE.test("README.md, the example", () -> example(readme));
        DUE.test("README.md names every call", () -> names(readme));
        DUE.test("README.md names what a refused call answers", () -> refusals(readme));
        DUE.end();
    }

    private static void example(String readme) {
        Matcher text = TEXT.matcher(readme);
        DUE.due("a town's text", text.find() ? 1 : 0, 1);
        WorstVoice x = Due.page(text.group(1));
        Matcher row = ROW.matcher(readme);
        int rows = 0;
        while (row.find()) {
            rows++;
            DUE.due(row.group(1) + "(" + row.group(2) + ")", answer(x, row.group(1), row.group(2)),
                Long.parseLong(row.group(3)));
        }
        DUE.due("rows that tell an answer", rows, readme.split("(?m)^x\\.", -1).length - 1);
        DUE.due("there are rows", rows > 0 ? 1 : 0, 1);
    }

    private static long answer(WorstVoice x, String name, String told) {
        try {
            for (Method method : WorstVoice.class.getDeclaredMethods()) {
                if (method.getName().equals(name) && Modifier.isPublic(method.getModifiers())) {
                    return ((Number) method.invoke(x, arguments(method, told))).longValue();
                }
            }
        } catch (ReflectiveOperationException wrong) {
            throw new IllegalStateException(name, wrong);
        }
        throw new IllegalStateException("no call of the face: " + name);
    }

    private static Object[] arguments(Method method, String told) {
        List<Object> arguments = new ArrayList<>();
        String[] each = told.isEmpty() ? new String[0] : told.split(",\\s*");
        for (int at = 0; at < each.length; at++) {
            boolean isWhether = method.getParameterTypes()[at] == boolean.class;
            arguments.add(isWhether ? (Object) Boolean.valueOf(each[at]) : (Object) Integer.valueOf(each[at]));
        }
        return arguments.toArray();
    }

    private static void names(String readme) {
        for (Method method : WorstVoice.class.getDeclaredMethods()) {
            if (Modifier.isPublic(method.getModifiers())) {
                DUE.due(method.getName(), readme.contains("`" + method.getName() + "`") ? 1 : 0, 1);
            }
        }
    }

    private static void refusals(String readme) {
        DUE.due("UNKNOWN", readme.contains("`UNKNOWN` (" + WorstVoice.UNKNOWN) ? 1 : 0, 1);
        DUE.due("OUTSIDE", readme.contains("`OUTSIDE` (" + WorstVoice.OUTSIDE) ? 1 : 0, 1);
        DUE.due("STATE", readme.contains("`STATE` (" + WorstVoice.STATE) ? 1 : 0, 1);
        DUE.due("FULL", readme.contains("`FULL` (" + WorstVoice.FULL) ? 1 : 0, 1);
        DUE.due("NONE", readme.contains("`NONE` (" + WorstVoice.NONE) ? 1 : 0, 1);
    }
}
