import java.io.IOException;
import java.nio.file.Files;
import java.nio.file.Path;
import java.util.ArrayList;
import java.util.HashSet;
import java.util.LinkedHashMap;
import java.util.List;
import java.util.Map;
import java.util.Set;
import java.util.TreeSet;
import java.util.regex.Matcher;
import java.util.regex.Pattern;

/** The rules of ../shared/LANGUAGE.md that the text of the program shows; the one argument is the program's path. */
public final class LanguageTest {
    private static final String[] FORBIDDEN = {
        "import", "package", "protected", "interface", "enum", "record", "float", "double", "String", "Math",
        "Integer", "Long", "System", "Arrays", "Object", "null", "throw", "throws", "try", "catch", "finally",
        "synchronized", "assert", "instanceof", "native", "volatile", "transient", "var"};
    private static final Pattern METHOD = Pattern.compile(
        "(?m)^ {4}(public|private)( static)?( \\w+(?:\\[\\])?)? (\\w+)\\(([^)]*)\\) \\{$");
    private static final Pattern LOOP = Pattern.compile(
        "\\bfor \\(int (\\w+) = 0; \\1 < (\\w+)(?: &&[^;]*)?; \\1\\+\\+\\) \\{");
    private static final Pattern CALL = Pattern.compile("\\b([A-Za-z_]\\w*)\\(");
    private static final Set<String> WORDS = Set.of("if", "for", "while", "switch", "return");
    private static final int MOST_LINES = 60;
    private static final int MOST_DEEP = 6;
    private static final int MOST_PARAMETERS = 7;
    private static final int MOST_FIELDS = 40;

    public static void main(String[] args) throws IOException {
        Check.start();
        String text = Files.readString(Path.of(args[0]));
        String code = text.replaceAll("(?s)/\\*.*?\\*/", "").replaceAll("//[^\n]*", "");
        forbiddenWords(code);
        arraysAndFields(code);
        loops(code);
        methods(code);
        Check.end();
    }

    private static void forbiddenWords(String code) {
        for (String word : FORBIDDEN) {
            Check.due("uses of " + word, count(code, "\\b" + word + "\\b"), 0);
        }
        Check.due("lambdas, method references, strings", count(code, "->|::|\""), 0);
        Check.due("classes", count(code, "\\bclass\\b"), 1);
        Check.due("arrays of arrays", count(code, "\\]\\s*\\["), 0);
    }

    private static void arraysAndFields(String code) {
        int made = count(code, "\\bnew\\b");
        int asFields = count(code, "(?m)^ {4}private final \\w+\\[\\] \\w+ = new \\w+\\[(?:[A-Z_]+|[1-9]\\d*)\\];$");
        Check.due("arrays made outside a field's initialiser", made - asFields, 0);
        Check.due("arrays named elsewhere than in a field", count(code, "\\[\\]") - asFields, 0);
        int statics = count(code, "(?m)^ {4}(?:public|private) static [^(\n]*;$");
        int constants = count(code, "(?m)^ {4}(?:public|private) static final (?:int|long) [A-Z_]+ = [-A-Z_*+0-9 ]+;$");
        Check.due("static fields that are no constants", statics - constants, 0);
        int fields = count(code, "(?m)^ {4}private (?!static)[^(\n]*;$");
        Check.due("fields above the limit", Math.max(0, fields - MOST_FIELDS), 0);
    }

    /** Stricter than rule 8, so that the text alone shows each loop's end: one counter from 0 against one bound. */
    private static void loops(String code) {
        Check.due("while and do loops", count(code, "\\b(?:while|do)\\b"), 0);
        Matcher loop = LOOP.matcher(code);
        int ended = 0;
        while (loop.find()) {
            ended++;
            String body = code.substring(loop.end(), closing(code, loop.end(), '{', '}'));
            for (String name : List.of(loop.group(1), loop.group(2))) {
                Check.due("changes of " + name + " inside its loop", count(body,
                    "\\b" + name + "(?:\\+\\+|--| [-+*/%&|^]?=(?!=))|(?:\\+\\+|--)" + name + "\\b"), 0);
            }
        }
        Check.due("loops whose end is not seen", count(code, "\\bfor\\b") - ended, 0);
    }

    private static void methods(String code) {
        Map<String, String> bodies = new LinkedHashMap<>();
        Set<String> publicOnes = new HashSet<>();
        Matcher found = METHOD.matcher(code);
        while (found.find()) {
            String name = found.group(4);
            Check.due("second method of the name " + name, bodies.containsKey(name) ? 1 : 0, 0);
            if (found.group(1).equals("public")) {
                publicOnes.add(name);
            }
            String body = code.substring(found.end(), code.indexOf("\n    }\n", found.end()));
            bodies.put(name, body);
            Check.due("lines of " + name + " above the limit", Math.max(0, count(body, "\n") - MOST_LINES), 0);
            Check.due("parameters of " + name + " above the limit",
                Math.max(0, found.group(5).split(",").length - MOST_PARAMETERS), 0);
        }
        Check.due("public methods found", publicOnes.size(), 17);
        for (String name : bodies.keySet()) {
            callsStandAlone(name, bodies.get(name));
            Check.due("depth of calls from " + name + " above the limit",
                Math.max(0, depth(name, bodies, new ArrayList<>()) - MOST_DEEP), 0);
        }
    }

    private static Set<String> calls(String body) {
        Set<String> called = new TreeSet<>();
        Matcher call = CALL.matcher(body);
        while (call.find()) {
            if (!WORDS.contains(call.group(1))) {
                called.add(call.group(1));
            }
        }
        return called;
    }

    /** How many methods deep the calls from this one go; a method that meets itself again is a fault. */
    private static int depth(String name, Map<String, String> bodies, List<String> path) {
        if (path.contains(name)) {
            Check.due("recursion through " + path, 1, 0);
            return 0;
        }
        Check.due("call of " + name + ", which is not of the program", bodies.containsKey(name) ? 0 : 1, 0);
        List<String> longer = new ArrayList<>(path);
        longer.add(name);
        int deepest = 0;
        for (String called : calls(bodies.getOrDefault(name, ""))) {
            deepest = Math.max(deepest, depth(called, bodies, longer));
        }
        return 1 + deepest;
    }

    private static void callsStandAlone(String name, String body) {
        Matcher call = CALL.matcher(body);
        while (call.find()) {
            if (!WORDS.contains(call.group(1))) {
                int end = closing(body, call.end(), '(', ')');
                Check.due("calls inside the arguments of " + call.group(1) + " in " + name,
                    calls(body.substring(call.end(), end)).size(), 0);
            }
        }
    }

    private static int closing(String body, int from, char opener, char closer) {
        int open = 1;
        int at = from;
        while (open > 0) {
            char c = body.charAt(at);
            open += c == opener ? 1 : c == closer ? -1 : 0;
            at++;
        }
        return at - 1;
    }

    private static int count(String code, String pattern) {
        Matcher found = Pattern.compile(pattern).matcher(code);
        int times = 0;
        while (found.find()) {
            times++;
        }
        return times;
    }
}
