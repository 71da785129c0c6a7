/** Promise 2: begin takes the lowest slot that is not in use. */
public final class Promise02BeginTest {
    public static void main(String[] args) {
        Check.start();
        takesFreeSlotsInOrder();
        takesEveryEndedStatus();
        neverTakesASlotInUse();
        takesTheLowestEndedSlot();
        changesNothingElse();
        forgetsEarlierUpdates();
        worksDuringAPack();
        refusedWhileCrashed();
        Check.end();
    }

    private static void takesFreeSlotsInOrder() {
        RefTransactions x = new RefTransactions(4, 8, 4);
        for (int slot = 0; slot < 4; slot++) {
            Check.due("begin()", x.begin(), slot);
            Check.same("the new slot", Check.slot(x, slot), Check.slotText(slot, RefTransactions.OPEN, 0, 0));
        }
        Check.refused("begin()", x, x::begin, RefTransactions.ERR_FULL);
    }

    private static void takesEveryEndedStatus() {
        RefTransactions x = new RefTransactions(4, 8, 2);
        reopens(x, Check.done(x, 7, 0, 1), RefTransactions.DONE);

        x = new RefTransactions(4, 8, 2);
        int slot = Check.locking(x, 7, 0, 1);
        x.run(slot, 1);
        x.abort(slot);
        reopens(x, slot, RefTransactions.ABORTED_USER);

        x = new RefTransactions(4, 8, 2);
        slot = Check.locking(x, 7, 0, 1);
        x.run(slot, 2);
        x.crash();
        x.recover();
        reopens(x, slot, RefTransactions.ABORTED_CRASH);

        x = new RefTransactions(4, 8, 2);
        slot = Check.open(x, 7, 0);
        x.add(slot, 1, 5, 6);
        x.commit(slot);
        x.run(slot, 2);
        reopens(x, slot, RefTransactions.ABORTED_MISMATCH);

        x = new RefTransactions(4, 8, 2);
        slot = Check.locking(x, 7, 0, 1);
        int holder = Check.locking(x, 8, 1);
        x.run(holder, 1);
        x.run(slot, 2);
        reopens(x, slot, RefTransactions.ABORTED_LOCKED);
    }

    private static void reopens(RefTransactions x, int slot, int status) {
        Check.due("status before begin", x.status(slot), status);
        Check.due("begin() on status " + status, x.begin(), slot);
        Check.same("the slot after status " + status, Check.slot(x, slot),
            Check.slotText(slot, RefTransactions.OPEN, 0, 0));
    }

    private static void neverTakesASlotInUse() {
        RefTransactions x = new RefTransactions(8, 8, 3);
        Check.open(x, 1, 0);
        Check.locking(x, 2, 1);
        Check.committed(x, 3, 2);
        Check.refused("begin() with OPEN, LOCKING, COMMITTED", x, x::begin, RefTransactions.ERR_FULL);
    }

    private static void takesTheLowestEndedSlot() {
        RefTransactions x = new RefTransactions(8, 8, 4);
        for (int n = 0; n < 4; n++) {
            Check.open(x, n + 1, n);
        }
        x.abort(3);
        x.abort(1);
        Check.due("begin()", x.begin(), 1);
        Check.due("begin()", x.begin(), 3);
        Check.due("begin()", x.begin(), RefTransactions.ERR_FULL);
    }

    private static void changesNothingElse() {
        RefTransactions x = Check.busyStore();
        String due = Check.view(x).replace(Check.slotText(0, RefTransactions.DONE, 6, 2),
            Check.slotText(0, RefTransactions.OPEN, 0, 0));
        Check.due("begin()", x.begin(), 0);
        Check.same("after begin", Check.view(x), due);
    }

    private static void forgetsEarlierUpdates() {
        RefTransactions x = new RefTransactions(4, 8, 1);
        Check.done(x, 7, 0, 1, 2, 3);
        Check.due("begin()", x.begin(), 0);
        Check.due("commit of no updates", x.commit(0), RefTransactions.ERR_EMPTY);
        Check.due("add of a ref named before", x.add(0, 3, 10, 11), RefTransactions.OK);
        x.commit(0);
        Check.due("run", x.run(0, 10), 4);
        Check.same("the values", Check.values(x), "values 7 8 9 11");
    }

    private static void worksDuringAPack() {
        RefTransactions x = new RefTransactions(4, 8, 1);
        x.packStart();
        x.packRun(1);
        Check.due("begin() in a pack", x.begin(), 0);
        Check.due("packProgress()", x.packProgress(), 1);
    }

    private static void refusedWhileCrashed() {
        RefTransactions x = new RefTransactions(4, 8, 1);
        x.begin();
        String before = Check.view(x).replace("status 1", "status 7");
        x.crash();
        Check.due("begin() crashed", x.begin(), RefTransactions.ERR_CRASHED);
        x.recover();
        Check.same("after the refused begin", Check.view(x), before);
    }
}
