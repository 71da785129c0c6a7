import java.io.IOException;
import java.nio.file.Files;
import java.nio.file.Path;
import java.util.ArrayList;
import java.util.List;
import java.util.regex.Matcher;
import java.util.regex.Pattern;

/**
 * "A refused mutator answers the first failing error code, in the order of conditions given for it": the text of each
 * method refuses in that order, also where no run can tell two orders apart (begin crashed and full, say). The one
 * argument is the program's path.
 */
public final class ConditionOrderTest {
    /** The document's conditions; two neighbours with one code stand as one. */
    private static final String[] DUE = {
        "begin: ERR_CRASHED ERR_FULL",
        "add: ERR_CRASHED ERR_SLOT ERR_STATE ERR_REF ERR_VALUE ERR_FULL ERR_DUP",
        "commit: ERR_CRASHED ERR_SLOT ERR_STATE ERR_EMPTY",
        "abort: ERR_CRASHED ERR_SLOT ERR_STATE",
        "run: ERR_CRASHED ERR_SLOT ERR_COUNT ERR_STATE ERR_BUSY",
        "packStart: ERR_CRASHED ERR_BUSY",
        "packRun: ERR_CRASHED ERR_COUNT ERR_STATE",
        "crash: ERR_CRASHED",
        "recover: ERR_STATE",
        "value: ERR_CRASHED ERR_REF",
        "status: ERR_CRASHED ERR_SLOT",
        "stepsDone: ERR_CRASHED ERR_SLOT",
        "updateCount: ERR_CRASHED ERR_SLOT",
        "logCount: ERR_CRASHED",
        "logEntry: ERR_CRASHED ERR_INDEX",
        "packProgress: ERR_CRASHED"};
    private static final Pattern METHOD = Pattern.compile("(?ms)^ {4}public int (\\w+)\\([^)]*\\) \\{\n(.*?)^ {4}\\}$");
    private static final Pattern ERROR = Pattern.compile("\\bERR_\\w+");
    private static final Pattern REFUSAL = Pattern.compile("\\breturn (ERR_\\w+);");
    private static final Pattern CONSTANT = Pattern.compile("int ERR_\\w+ =");

    public static void main(String[] args) throws IOException {
        Check.start();
        String text = Files.readString(Path.of(args[0]));
        List<String> got = new ArrayList<>();
        int refusals = 0;
        Matcher method = METHOD.matcher(text);
        while (method.find()) {
            List<String> codes = codes(method.group(2));
            refusals += codes.size();
            got.add(method.group(1) + ":" + joined(codes));
        }
        Check.same("the orders of refusals", String.join("\n", got), String.join("\n", DUE));
        // A code that is answered in another way would not be seen above.
        Check.due("error codes elsewhere than in a constant or a refusal",
            (int) ERROR.matcher(text).results().count()
                - (int) CONSTANT.matcher(text).results().count() - refusals, 0);
        Check.end();
    }

    private static List<String> codes(String body) {
        return REFUSAL.matcher(body).results().map(found -> found.group(1)).toList();
    }

    private static String joined(List<String> codes) {
        StringBuilder told = new StringBuilder();
        String last = "";
        for (String code : codes) {
            if (!code.equals(last)) {
                told.append(' ').append(code);
            }
            last = code;
        }
        return told.toString();
    }
}
