import java.util.ArrayDeque;
import java.util.ArrayList;
import java.util.Arrays;
import java.util.List;

/** Promise 15: logCount and logEntry read the reflog, oldest entry first. */
public final class Promise15LogTest {
    public static void main(String[] args) {
        Check.start();
        for (int cap : new int[] {8, 9, 11, 31, 32}) {
            for (int updates = 1; updates <= RefTransactions.MAX_UPDATES; updates++) {
                staysInStepWithAList(cap, updates);
            }
        }
        refusesWrongIndexes();
        refusedWhileCrashed();
        Check.end();
    }

    /** Enough commits to go round the ring several times, so that every start of the ring is met. */
    private static void staysInStepWithAList(int cap, int updates) {
        RefTransactions x = new RefTransactions(7, cap, 1);
        ArrayDeque<int[]> due = new ArrayDeque<>();
        int[] values = new int[7];
        for (int n = 0; n < 3 * cap; n++) {
            int[] refs = new int[updates];
            for (int u = 0; u < updates; u++) {
                refs[u] = (n + 2 * u) % 7;
                due.addLast(new int[] {refs[u], values[refs[u]], 5 * n + u});
                values[refs[u]] = 5 * n + u;
                if (due.size() > cap) {
                    due.removeFirst();
                }
            }
            Check.done(x, 5 * n, refs);
            Check.due("logCount()", x.logCount(), due.size());
            compare(x, new ArrayList<>(due));
        }
    }

    private static void compare(RefTransactions x, List<int[]> due) {
        int[] fields = {RefTransactions.LOG_REF, RefTransactions.LOG_OLD, RefTransactions.LOG_NEW};
        for (int i = 0; i < due.size(); i++) {
            int[] got = {x.logEntry(i, fields[0]), x.logEntry(i, fields[1]), x.logEntry(i, fields[2])};
            Check.same("entry " + i, Arrays.toString(got), Arrays.toString(due.get(i)));
        }
    }

    private static void refusesWrongIndexes() {
        RefTransactions x = new RefTransactions(4, 8, 1);
        Check.due("logCount()", x.logCount(), 0);
        Check.refused("logEntry(0, 0) of an empty log", x, () -> x.logEntry(0, 0), RefTransactions.ERR_INDEX);
        for (int n = 1; n <= 12; n++) {
            Check.done(x, n, 1);
            int count = Math.min(n, 8);
            for (int wrong : new int[] {Integer.MIN_VALUE, -1, count, count + 1, 32, Integer.MAX_VALUE}) {
                for (int field = -1; field <= 3; field++) {
                    int asked = field;
                    Check.refused("logEntry(" + wrong + ", " + field + ")", x,
                        () -> x.logEntry(wrong, asked), RefTransactions.ERR_INDEX);
                }
            }
            for (int wrong : new int[] {Integer.MIN_VALUE, -1, 3, 4, Integer.MAX_VALUE}) {
                Check.refused("logEntry(0, " + wrong + ")", x, () -> x.logEntry(0, wrong), RefTransactions.ERR_INDEX);
                Check.refused("logEntry(last, " + wrong + ")", x,
                    () -> x.logEntry(count - 1, wrong), RefTransactions.ERR_INDEX);
            }
        }
    }

    private static void refusedWhileCrashed() {
        RefTransactions x = new RefTransactions(4, 8, 1);
        Check.done(x, 1, 1);
        x.crash();
        Check.due("logCount() crashed", x.logCount(), RefTransactions.ERR_CRASHED);
        Check.due("logEntry(0, 0) crashed", x.logEntry(0, 0), RefTransactions.ERR_CRASHED);
        Check.due("logEntry(-1, 9) crashed", x.logEntry(-1, 9), RefTransactions.ERR_CRASHED);
    }
}
