/** Promise 4: commit turns an OPEN slot with updates into a LOCKING one, and takes no step. */
public final class Promise04CommitTest {
    public static void main(String[] args) {
        Check.start();
        startsLocking();
        holdsNothingYet();
        refusesInOrder();
        worksDuringAPack();
        refusedWhileCrashed();
        Check.end();
    }

    private static void startsLocking() {
        for (int updates = 1; updates <= RefTransactions.MAX_UPDATES; updates++) {
            RefTransactions x = Check.busyStore();
            int slot = Check.open(x, 50, 7);
            for (int n = 1; n < updates; n++) {
                x.add(slot, 7 - n, 0, n);
            }
            String before = Check.view(x);
            Check.due("commit", x.commit(slot), RefTransactions.OK);
            Check.same("after commit", Check.view(x), before.replace(
                Check.slotText(slot, RefTransactions.OPEN, 0, updates),
                Check.slotText(slot, RefTransactions.LOCKING, 0, updates)));
        }
    }

    private static void holdsNothingYet() {
        RefTransactions x = new RefTransactions(4, 8, 2);
        int waiting = Check.locking(x, 1, 0, 1);
        int other = Check.locking(x, 5, 0, 1);
        Check.due("run over the refs of a slot that only committed", x.run(other, 10), 6);
        Check.due("then its own run", x.run(waiting, 10), 6);
        Check.same("the values", Check.values(x), "values 1 2 0 0");
    }

    private static void refusesInOrder() {
        RefTransactions x = Check.busyStore();
        for (int wrong : new int[] {Integer.MIN_VALUE, -1, 4, 5, Integer.MAX_VALUE}) {
            Check.refused("commit(" + wrong + ")", x, () -> x.commit(wrong), RefTransactions.ERR_SLOT);
        }
        for (int slot = 0; slot < 4; slot++) {
            int tried = slot;
            Check.refused("commit of status " + x.status(slot), x, () -> x.commit(tried), RefTransactions.ERR_STATE);
        }
        RefTransactions y = new RefTransactions(4, 8, 2);
        Check.refused("commit of a FREE slot", y, () -> y.commit(0), RefTransactions.ERR_STATE);
        Check.refused("commit of a slot past S", y, () -> y.commit(2), RefTransactions.ERR_SLOT);
        y.begin();
        Check.refused("commit of no updates", y, () -> y.commit(0), RefTransactions.ERR_EMPTY);
        y.abort(0);
        Check.refused("commit of an aborted empty slot", y, () -> y.commit(0), RefTransactions.ERR_STATE);
    }

    private static void worksDuringAPack() {
        RefTransactions x = new RefTransactions(4, 8, 1);
        Check.open(x, 1, 0);
        x.packStart();
        x.packRun(2);
        Check.due("commit in a pack", x.commit(0), RefTransactions.OK);
        Check.due("status(0)", x.status(0), RefTransactions.LOCKING);
        Check.due("packProgress()", x.packProgress(), 2);
    }

    private static void refusedWhileCrashed() {
        RefTransactions x = new RefTransactions(4, 8, 1);
        Check.open(x, 1, 0);
        x.crash();
        Check.due("commit crashed", x.commit(0), RefTransactions.ERR_CRASHED);
        Check.due("commit crashed", x.commit(-1), RefTransactions.ERR_CRASHED);
        x.recover();
        Check.due("status(0)", x.status(0), RefTransactions.ABORTED_CRASH);
    }
}
