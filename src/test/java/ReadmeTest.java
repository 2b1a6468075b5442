import java.io.IOException;
import java.lang.reflect.Method;
import java.lang.reflect.Modifier;
import java.nio.file.Files;
import java.nio.file.Path;
import java.util.List;
import java.util.regex.Matcher;
import java.util.regex.Pattern;

/** README.md tells the truth: its example answers what it says, and its table has every call. */
public final class ReadmeTest {
    private static final Pattern CALL = Pattern.compile("t\\.(\\w+)\\(([^)]*)\\);\\s*// (-?\\d+)(:.*)?");

    private static int right = 0;
    private static int wrong = 0;

    public static void main(String[] args) throws IOException, ReflectiveOperationException {
        List<String> lines = Files.readAllLines(Path.of("README.md"));
        example(lines);
        tableOfCalls(lines);
        System.out.println(right + " passed, " + wrong + " failed");
        if (wrong != 0) {
            System.exit(1);
        }
    }

    private static void due(String what, boolean holds) {
        if (holds) {
            right++;
        } else {
            wrong++;
            System.out.println("README.md: " + what);
        }
    }

    private static void example(List<String> lines) throws ReflectiveOperationException {
        int first = lines.indexOf("```java") + 1;
        due("there is no example", first > 0 && lines.get(first).equals("MarginTable t = new MarginTable();"));
        MarginTable t = new MarginTable();
        for (int i = first + 1; i < lines.size() && !lines.get(i).equals("```"); i++) {
            answersAsTold(t, lines.get(i));
        }
    }

    private static void answersAsTold(MarginTable t, String line) throws ReflectiveOperationException {
        Matcher call = CALL.matcher(line);
        if (!call.matches()) {
            due("no call with its answer: " + line, false);
            return;
        }
        String[] words = call.group(2).isEmpty() ? new String[0] : call.group(2).split(", ");
        Class<?>[] types = new Class<?>[words.length];
        Object[] numbers = new Object[words.length];
        for (int k = 0; k < words.length; k++) {
            types[k] = int.class;
            numbers[k] = Integer.parseInt(words[k]);
        }
        Method method = MarginTable.class.getMethod(call.group(1), types);
        long got = ((Number) method.invoke(t, numbers)).longValue();
        due(line + " answered " + got, got == Long.parseLong(call.group(3)));
    }

    private static void tableOfCalls(List<String> lines) {
        for (Method m : MarginTable.class.getDeclaredMethods()) {
            if (Modifier.isPublic(m.getModifiers())) {
                String row = "| `" + m.getName() + "(";
                due("no row for " + m.getName(), lines.stream().filter(l -> l.startsWith(row)).count() == 1);
            }
        }
    }
}
