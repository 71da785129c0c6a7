/** Promises 12, 13 and 14: status, stepsDone and updateCount of a slot. */
public final class Promise12To14SlotQueriesTest {
    public static void main(String[] args) {
        Check.start();
        tellEveryStatus();
        tellEveryStatusOfEachKind();
        tellEveryCount();
        refuseWrongSlots();
        Check.end();
    }

    private static void tellEveryStatus() {
        RefTransactions x = new RefTransactions(8, 8, 4);
        tells(x, 0, RefTransactions.FREE, 0, 0);
        Check.open(x, 1, 0, 1);
        tells(x, 0, RefTransactions.OPEN, 0, 2);
        x.commit(0);
        tells(x, 0, RefTransactions.LOCKING, 0, 2);
        x.run(0, 2);
        tells(x, 0, RefTransactions.LOCKING, 2, 2);
        x.run(0, 1);
        tells(x, 0, RefTransactions.COMMITTED, 3, 2);
        Check.locking(x, 1, 2, 3, 1);
        x.run(1, 9);
        tells(x, 1, RefTransactions.ABORTED_LOCKED, 2, 3);
        x.begin();
        x.begin();
        x.add(2, 5, 0, 1);
        x.add(2, 6, 1, 1);
        x.commit(2);
        x.run(2, 9);
        tells(x, 2, RefTransactions.ABORTED_MISMATCH, 1, 2);
        Check.due("begin()", x.begin(), 2);
        Check.due("begin()", x.begin(), 3);
        x.abort(3);
        tells(x, 3, RefTransactions.ABORTED_USER, 0, 0);
        x.run(0, 9);
        tells(x, 0, RefTransactions.DONE, 6, 2);
        x.crash();
        x.recover();
        tells(x, 0, RefTransactions.DONE, 6, 2);
        tells(x, 1, RefTransactions.ABORTED_CRASH, 0, 0);
        tells(x, 2, RefTransactions.ABORTED_CRASH, 0, 0);
        tells(x, 3, RefTransactions.ABORTED_USER, 0, 0);
    }

    private static void tellEveryStatusOfEachKind() {
        int[] steps = {0, 0, 1, 3, 6, 1, 1, 1, 1};
        for (int status : Stores.STATUSES) {
            tells(Stores.slotIn(status), 0, status, steps[status], status == RefTransactions.FREE ? 0 : 2);
        }
    }

    private static void tells(RefTransactions x, int slot, int status, int steps, int updates) {
        String before = Check.view(x);
        Check.due("status(" + slot + ")", x.status(slot), status);
        Check.due("stepsDone(" + slot + ") at status " + status, x.stepsDone(slot), steps);
        Check.due("updateCount(" + slot + ") at status " + status, x.updateCount(slot), updates);
        Check.same("after the queries", Check.view(x), before);
    }

    /** "the slot's number of updates (0..MAX_UPDATES)" */
    private static void tellEveryCount() {
        RefTransactions x = new RefTransactions(8, 8, 1);
        x.begin();
        for (int n = 0; n <= RefTransactions.MAX_UPDATES; n++) {
            Check.due("updateCount(0)", x.updateCount(0), n);
            x.add(0, n, 0, 1);
        }
        Check.due("updateCount(0) after a refused add", x.updateCount(0), RefTransactions.MAX_UPDATES);
    }

    /** "slot not in 0..S-1 -> ERR_SLOT", after "crashed -> ERR_CRASHED", of all three. */
    private static void refuseWrongSlots() {
        for (int slots = 1; slots <= 4; slots++) {
            RefTransactions x = new RefTransactions(4, 8, slots);
            for (int wrong : new int[] {Integer.MIN_VALUE, Integer.MIN_VALUE + 1, -4, -2, -1, slots, slots + 1, 4, 5,
                Integer.MAX_VALUE}) {
                Check.refused("status(" + wrong + ")", x, () -> x.status(wrong), RefTransactions.ERR_SLOT);
                Check.refused("stepsDone(" + wrong + ")", x, () -> x.stepsDone(wrong), RefTransactions.ERR_SLOT);
                Check.refused("updateCount(" + wrong + ")", x, () -> x.updateCount(wrong), RefTransactions.ERR_SLOT);
            }
            for (int n = 0; n < slots; n++) {
                Check.committed(x, 1, n);
            }
            tells(x, 0, RefTransactions.COMMITTED, 2, 1);
            tells(x, slots - 1, RefTransactions.COMMITTED, 2, 1);
            x.crash();
            for (int slot : Check.EDGES) {
                Check.due("status(" + slot + ") crashed", x.status(slot), RefTransactions.ERR_CRASHED);
                Check.due("stepsDone(" + slot + ") crashed", x.stepsDone(slot), RefTransactions.ERR_CRASHED);
                Check.due("updateCount(" + slot + ") crashed", x.updateCount(slot), RefTransactions.ERR_CRASHED);
            }
        }
    }
}
