import java.io.IOException;
import java.nio.file.Files;
import java.nio.file.Path;
import java.util.Arrays;
import java.util.HashMap;
import java.util.HashSet;
import java.util.Map;
import java.util.Set;
import java.util.regex.Matcher;
import java.util.regex.Pattern;

/** The examples of README.md answer what it says and show every method; its table has every error code. */
public final class ReadmeTest {
    private static final Pattern BLOCK = Pattern.compile("(?ms)^```java\n(.*?)^```$");
    private static final Pattern MAKING = Pattern.compile("RefTransactions store = new RefTransactions\\((.*)\\);");
    private static final Pattern CALL = Pattern.compile(
        "(?:int (\\w+) = )?store\\.(\\w+)\\((.*)\\); +// (\\w+)(?:: .*)?");
    private static final Pattern ERROR_ROW = Pattern.compile("(?m)^\\| `(ERR_\\w+)` \\((-\\d+)\\) \\|");
    private static final int METHODS = 16;
    private static final int ERRORS = 11;

    private final Map<String, Integer> variables = new HashMap<>();
    private final Set<String> shown = new HashSet<>();
    private RefTransactions store;

    public static void main(String[] args) throws IOException, ReflectiveOperationException {
        Check.start();
        String text = Files.readString(Path.of("README.md"));
        ReadmeTest examples = new ReadmeTest();
        Matcher block = BLOCK.matcher(text);
        while (block.find()) {
            for (String line : block.group(1).split("\n")) {
                examples.follow(line);
            }
        }
        Check.due("methods that the examples show", examples.shown.size(), METHODS);
        errorTable(text);
        Check.end();
    }

    private void follow(String line) throws ReflectiveOperationException {
        Matcher making = MAKING.matcher(line);
        Matcher call = CALL.matcher(line);
        if (making.matches()) {
            int[] sizes = numbers(making.group(1));
            store = new RefTransactions(sizes[0], sizes[1], sizes[2]);
        } else if (call.matches()) {
            int got = answer(call.group(2), numbers(call.group(3)));
            Check.due("README: " + call.group(2) + "(" + call.group(3) + ")", got, number(call.group(4)));
            shown.add(call.group(2));
            if (call.group(1) != null) {
                variables.put(call.group(1), got);
            }
        } else {
            Check.same("a line of README that this test can't follow", line, "");
        }
    }

    private int answer(String method, int[] arguments) throws ReflectiveOperationException {
        Class<?>[] types = new Class<?>[arguments.length];
        Arrays.fill(types, int.class);
        Object[] given = Arrays.stream(arguments).boxed().toArray();
        return (int) RefTransactions.class.getMethod(method, types).invoke(store, given);
    }

    private int[] numbers(String list) throws ReflectiveOperationException {
        String[] parts = list.isEmpty() ? new String[0] : list.split(", ");
        int[] told = new int[parts.length];
        for (int n = 0; n < parts.length; n++) {
            told[n] = number(parts[n]);
        }
        return told;
    }

    /** A number, a variable of the examples or a constant of the class. */
    private int number(String text) throws ReflectiveOperationException {
        if (text.matches("-?\\d+")) {
            return Integer.parseInt(text);
        }
        if (variables.containsKey(text)) {
            return variables.get(text);
        }
        return RefTransactions.class.getField(text.replace("RefTransactions.", "")).getInt(null);
    }

    private static void errorTable(String text) throws ReflectiveOperationException {
        Matcher row = ERROR_ROW.matcher(text);
        Set<String> told = new HashSet<>();
        while (row.find()) {
            told.add(row.group(1));
            Check.due(row.group(1), Integer.parseInt(row.group(2)),
                RefTransactions.class.getField(row.group(1)).getInt(null));
        }
        Check.due("errors in the table", told.size(), ERRORS);
    }
}
