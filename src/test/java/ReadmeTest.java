import java.io.IOException;
import java.lang.reflect.Method;
import java.lang.reflect.Modifier;
import java.nio.file.Files;
import java.nio.file.Path;
import java.util.Arrays;
import java.util.List;
import java.util.regex.Matcher;
import java.util.regex.Pattern;

/** README.md: its examples answer as it says, and its tables have every call with the refusal that the call gives. */
public final class ReadmeTest {
    private static final Pattern BLOCK = Pattern.compile("(?s)```java\n(.*?)```");
    private static final Pattern ASKED = Pattern.compile("bench\\.(\\w+)\\(([^)]*)\\);\\s*// (-?\\d+): .*");
    private static final Pattern ROW = Pattern.compile("(?m)^\\| `(\\w+)\\(([^)]*)\\)` \\| (.*) \\| (.*) \\|$");
    private static final Checks checks = new Checks();

    public static void main(String[] args) throws IOException, ReflectiveOperationException {
        String readme = Files.readString(Path.of("README.md"));
        Matcher blocks = BLOCK.matcher(readme);
        while (blocks.find()) {
            example(blocks.group(1));
        }
        for (Method method : LensBench.class.getDeclaredMethods()) {
            if (Modifier.isPublic(method.getModifiers())) {
                rowOf(method, readme);
            }
        }
        checks.end();
    }

    private static void example(String block) throws ReflectiveOperationException {
        List<String> lines = block.lines().toList();
        checks.dueTrue("made by: " + lines.get(0), lines.get(0).equals("LensBench bench = new LensBench();"));
        LensBench bench = new LensBench();
        for (String line : lines.subList(1, lines.size())) {
            Matcher asked = ASKED.matcher(line);
            if (asked.matches()) {
                String[] numbers = asked.group(2).isEmpty() ? new String[0] : asked.group(2).split(", ");
                due(line, answer(bench, asked.group(1), numbers), Long.parseLong(asked.group(3)));
            } else {
                checks.dueTrue("a call with its answer: " + line, false);
            }
        }
    }

    private static void due(String call, long got, long want) {
        checks.due(call, got, want);
    }

    private static long answer(LensBench bench, String name, String[] numbers) throws ReflectiveOperationException {
        Method method = named(name);
        Object[] given = new Object[numbers.length];
        for (int i = 0; i < numbers.length; i++) {
            given[i] = number(method.getParameterTypes()[i], Long.decode(numbers[i].replace("L", "")));
        }
        return ((Number) method.invoke(bench, given)).longValue();
    }

    private static Object number(Class<?> type, long v) {
        return type == long.class ? (Object) v : (Object) (int) v;
    }

    private static Method named(String name) {
        return Arrays.stream(LensBench.class.getDeclaredMethods())
                .filter(method -> method.getName().equals(name)).findFirst().orElseThrow();
    }

    private static void rowOf(Method method, String readme) throws ReflectiveOperationException {
        int found = 0;
        Matcher rows = ROW.matcher(readme);
        while (rows.find()) {
            if (rows.group(1).equals(method.getName())) {
                found++;
                int parameters = rows.group(2).isEmpty() ? 0 : rows.group(2).split(", ").length;
                due("parameters of " + rows.group(1), parameters, method.getParameterCount());
                refusal(method, rows.group(4));
            }
        }
        due("rows of " + method.getName(), found, 1);
    }

    /** The first refusal told is what an object without bodies, its text a fault, answers to the least numbers. */
    private static void refusal(Method method, String told) throws ReflectiveOperationException {
        Object[] least = new Object[method.getParameterCount()];
        for (int i = 0; i < least.length; i++) {
            least[i] = number(method.getParameterTypes()[i], Integer.MIN_VALUE);
        }
        LensBench bench = new LensBench();
        bench.type('x', 1);
        long got = ((Number) method.invoke(bench, least)).longValue();
        if (told.equals("never")) {
            due("never refused: " + method.getName(), least.length == 0 && got >= 0 ? 1 : 0, 1);
            return;
        }
        String first = told.substring(1, told.indexOf('`', 1));
        long want = switch (first) {
            case "BAD" -> LensBench.BAD;
            case "STATE" -> LensBench.STATE;
            case "NO" -> LensBench.NO;
            default -> Long.parseLong(first);
        };
        due("refused: " + method.getName(), got, want);
        boolean canBeFull = List.of("body", "type", "pair", "spot").contains(method.getName());
        due("FULL told: " + method.getName(), told.contains("`FULL`") ? 1 : 0, canBeFull ? 1 : 0);
    }
}
