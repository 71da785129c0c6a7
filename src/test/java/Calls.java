import java.util.LinkedHashMap;
import java.util.Map;
import java.util.function.ToIntFunction;

/** Every method of the class with the arguments at and beside the document's edges, each call by its text. */
final class Calls {
    private static final int LOW = Integer.MIN_VALUE;
    private static final int HIGH = Integer.MAX_VALUE;
    private static final int[] SLOTS = {LOW, -1, 0, 1, 2, 3, 4, HIGH};
    private static final int[] REFS = {LOW, -1, 0, 1, 2, 4, 5, 7, 8, 16, HIGH};
    private static final int[] EXPECTED = {LOW, -2, -1, 0, 10, HIGH};
    private static final int[] VALUES = {LOW, -1, 0, 77, HIGH};
    private static final int[] COUNTS = {LOW, -1, 0, 1, 2, HIGH};

    private Calls() {
    }

    static Map<String, ToIntFunction<RefTransactions>> mutators() {
        Map<String, ToIntFunction<RefTransactions>> calls = new LinkedHashMap<>();
        calls.put("begin()", RefTransactions::begin);
        calls.put("packStart()", RefTransactions::packStart);
        calls.put("crash()", RefTransactions::crash);
        calls.put("recover()", RefTransactions::recover);
        for (int count : COUNTS) {
            calls.put("packRun(" + count + ")", x -> x.packRun(count));
        }
        for (int slot : SLOTS) {
            calls.put("commit(" + slot + ")", x -> x.commit(slot));
            calls.put("abort(" + slot + ")", x -> x.abort(slot));
            for (int count : COUNTS) {
                calls.put("run(" + slot + ", " + count + ")", x -> x.run(slot, count));
            }
            for (int ref : REFS) {
                putAdds(calls, slot, ref);
            }
        }
        return calls;
    }

    private static void putAdds(Map<String, ToIntFunction<RefTransactions>> calls, int slot, int ref) {
        for (int expected : EXPECTED) {
            for (int value : VALUES) {
                calls.put("add(" + slot + ", " + ref + ", " + expected + ", " + value + ")",
                    x -> x.add(slot, ref, expected, value));
            }
        }
    }

    static Map<String, ToIntFunction<RefTransactions>> queries() {
        Map<String, ToIntFunction<RefTransactions>> calls = new LinkedHashMap<>();
        calls.put("logCount()", RefTransactions::logCount);
        calls.put("packProgress()", RefTransactions::packProgress);
        for (int n : Check.EDGES) {
            calls.put("value(" + n + ")", x -> x.value(n));
            calls.put("status(" + n + ")", x -> x.status(n));
            calls.put("stepsDone(" + n + ")", x -> x.stepsDone(n));
            calls.put("updateCount(" + n + ")", x -> x.updateCount(n));
            for (int field : new int[] {LOW, -1, 0, 1, 2, 3, HIGH}) {
                calls.put("logEntry(" + n + ", " + field + ")", x -> x.logEntry(n, field));
            }
        }
        return calls;
    }
}
