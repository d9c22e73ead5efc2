import java.io.IOException;
import java.lang.reflect.Method;
import java.lang.reflect.Modifier;
import java.nio.file.Files;
import java.nio.file.Path;
import java.util.Arrays;
import java.util.List;
import java.util.regex.Matcher;
import java.util.regex.Pattern;

/** README.md: its example answers what it says there, and its table has every call. */
public final class ReadmeTest {
    private static final Pattern ROW = Pattern.compile("x\\.(\\w+)\\(([^)]*)\\); +// (true|false|-?\\d+): .*");

    public static void main(String[] args) throws IOException {
        List<String> lines = Files.readAllLines(Path.of("README.md"));
        example(lines);
        table(lines);
        Check.end();
    }

    private static void example(List<String> lines) {
        int first = lines.indexOf("CellFabric x = new CellFabric();") + 1;
        Check.due("there is an example", first > 0, true);
        CellFabric x = new CellFabric();
        int at = first;
        for (; !lines.get(at).equals("```"); at++) {
            row(x, lines.get(at));
        }
        Check.due("the example has calls", at > first, true);
    }

    private static void row(CellFabric x, String line) {
        Matcher row = ROW.matcher(line);
        if (!row.matches()) {
            Check.wrong("not a call with its answer: " + line);
            return;
        }
        Call call = new Call(row.group(1), numbers(row.group(2)));
        Check.due("README.md: " + call, call.on(x), answer(row.group(3)));
    }

    private static int[] numbers(String list) {
        return list.isEmpty() ? new int[0] : Arrays.stream(list.split(", ")).mapToInt(Integer::parseInt).toArray();
    }

    private static int answer(String text) {
        return switch (text) {
            case "true" -> 1;
            case "false" -> 0;
            default -> Integer.parseInt(text);
        };
    }

    private static void table(List<String> lines) {
        for (Method m : CellFabric.class.getDeclaredMethods()) {
            if (Modifier.isPublic(m.getModifiers())) {
                String start = "| `" + m.getName() + "(";
                Check.due("rows of " + m.getName(), lines.stream().filter(l -> l.startsWith(start)).count(), 1);
            }
        }
    }
}
