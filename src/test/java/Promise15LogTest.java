import java.util.ArrayDeque;
import java.util.ArrayList;
import java.util.Arrays;
import java.util.List;

/** Promise 15: logCount and logEntry read the reflog, oldest entry first. */
public final class Promise15LogTest {
    public static void main(String[] args) {
        Check.start();
        for (int cap : new int[] {8, 9, 11, 31, 32}) {
            for (int updates = 1; updates <= RefTransactions.MAX_UPDATES; updates++) {
                staysInStepWithAList(cap, updates);
            }
        }
        refusesWrongEntries();
        refusesWrongFields();
        tellsTheLeastAndTheGreatest();
        refusedWhileCrashed();
        Check.end();
    }

    /** Enough commits to go round the ring several times, so that every start of the ring is met. */
    private static void staysInStepWithAList(int cap, int updates) {
        RefTransactions x = new RefTransactions(7, cap, 1);
        ArrayDeque<int[]> due = new ArrayDeque<>();
        int[] values = new int[7];
        for (int n = 0; n < 3 * cap; n++) {
            int[] refs = new int[updates];
            for (int u = 0; u < updates; u++) {
                refs[u] = (n + 2 * u) % 7;
                due.addLast(new int[] {refs[u], values[refs[u]], 5 * n + u});
                values[refs[u]] = 5 * n + u;
                if (due.size() > cap) {
                    due.removeFirst();
                }
            }
            Check.done(x, 5 * n, refs);
            Check.due("logCount()", x.logCount(), due.size());
            compare(x, new ArrayList<>(due));
        }
    }

    private static void compare(RefTransactions x, List<int[]> due) {
        int[] fields = {RefTransactions.LOG_REF, RefTransactions.LOG_OLD, RefTransactions.LOG_NEW};
        for (int i = 0; i < due.size(); i++) {
            int[] got = {x.logEntry(i, fields[0]), x.logEntry(i, fields[1]), x.logEntry(i, fields[2])};
            Check.same("entry " + i, Arrays.toString(got), Arrays.toString(due.get(i)));
        }
    }

    /** "i not in 0..logCount-1 -> ERR_INDEX": an empty, a part-filled, a full and a wrapped reflog. */
    private static void refusesWrongEntries() {
        for (int cap : new int[] {8, 9, 32}) {
            RefTransactions x = new RefTransactions(4, cap, 1);
            for (int n = 0; n <= 2 * cap + 1; n++) {
                int count = Math.min(n, cap);
                Check.due("logCount()", x.logCount(), count);
                for (int wrong : new int[] {Integer.MIN_VALUE, Integer.MIN_VALUE + 1, -cap, -2, -1, count, count + 1,
                    cap, cap + 1, 33, Integer.MAX_VALUE - 1, Integer.MAX_VALUE}) {
                    for (int field = 0; field <= 2; field++) {
                        int asked = field;
                        Check.refused("logEntry(" + wrong + ", " + field + ") of " + count, x,
                            () -> x.logEntry(wrong, asked), RefTransactions.ERR_INDEX);
                    }
                }
                if (n > 0) {
                    Check.due("the newest entry", x.logEntry(count - 1, RefTransactions.LOG_NEW), n);
                    Check.due("the oldest entry", x.logEntry(0, RefTransactions.LOG_NEW), n - count + 1);
                }
                Check.done(x, n + 1, 1);
            }
        }
    }

    /** "field not in 0..2 -> ERR_INDEX", for the oldest and the newest entry, and for an entry that is wrong, too. */
    private static void refusesWrongFields() {
        RefTransactions x = new RefTransactions(4, 8, 1);
        for (int n = 0; n < 12; n++) {
            int newest = x.logCount() - 1;
            for (int wrong : new int[] {Integer.MIN_VALUE, Integer.MIN_VALUE + 1, -2, -1, 3, 4, Integer.MAX_VALUE}) {
                for (int entry : new int[] {0, newest, newest + 1, -1}) {
                    Check.refused("logEntry(" + entry + ", " + wrong + ")", x,
                        () -> x.logEntry(entry, wrong), RefTransactions.ERR_INDEX);
                }
            }
            Check.done(x, n, 1);
        }
    }

    /** An entry of ref 0, of value 0, and of the greatest value is an answer like any other. */
    private static void tellsTheLeastAndTheGreatest() {
        RefTransactions x = new RefTransactions(16, 8, 1);
        Check.done(x, Integer.MAX_VALUE, 0);
        Check.done(x, 0, 0);
        Check.done(x, Integer.MAX_VALUE, 15);
        Check.done(x, 0, 7);
        Check.same("the log", Check.log(x),
            " log (0 0 2147483647) (0 2147483647 0) (15 0 2147483647) (7 0 0)");
    }

    /** "crashed -> ERR_CRASHED" comes before a wrong entry or field. */
    private static void refusedWhileCrashed() {
        RefTransactions x = new RefTransactions(4, 8, 1);
        Check.done(x, 1, 1);
        x.crash();
        Check.due("logCount() crashed", x.logCount(), RefTransactions.ERR_CRASHED);
        for (int entry : Check.EDGES) {
            for (int field : Check.EDGES) {
                Check.due("logEntry(" + entry + ", " + field + ") crashed", x.logEntry(entry, field),
                    RefTransactions.ERR_CRASHED);
            }
        }
        x.recover();
        Check.same("the log recovered", Check.log(x), " log (1 0 1)");
    }
}
