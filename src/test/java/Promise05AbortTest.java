/** Promise 5: abort ends an OPEN or LOCKING slot and gives its refs back. */
public final class Promise05AbortTest {
    public static void main(String[] args) {
        Check.start();
        abortsOpen();
        abortsLockingAtEveryStep();
        changesNothingElse();
        refusesInOrder();
        worksDuringAPack();
        refusedWhileCrashed();
        Check.end();
    }

    private static void abortsOpen() {
        RefTransactions x = new RefTransactions(4, 8, 2);
        x.begin();
        Check.due("abort of an empty slot", x.abort(0), RefTransactions.OK);
        Check.same("the slot", Check.slot(x, 0), Check.slotText(0, RefTransactions.ABORTED_USER, 0, 0));
        Check.open(x, 1, 0, 1, 2);
        Check.due("abort", x.abort(0), RefTransactions.OK);
        Check.same("all", Check.view(x), "values 0 0 0 0" + Check.slotText(0, RefTransactions.ABORTED_USER, 0, 3)
            + Check.slotText(1, RefTransactions.FREE, 0, 0) + " log pack 3");
    }

    private static void abortsLockingAtEveryStep() {
        for (int steps = 0; steps <= 3; steps++) {
            RefTransactions x = new RefTransactions(4, 8, 2);
            Check.locking(x, 1, 0, 1, 2);
            if (steps > 0) {
                Check.due("run", x.run(0, steps), steps);
            }
            Check.due("abort", x.abort(0), RefTransactions.OK);
            Check.same("all", Check.view(x), "values 0 0 0 0"
                + Check.slotText(0, RefTransactions.ABORTED_USER, steps, 3)
                + Check.slotText(1, RefTransactions.FREE, 0, 0) + " log pack 3");
            x.begin();
            int free = 1;
            Check.due("begin", x.begin(), free);
            x.add(free, 0, 0, 9);
            x.add(free, 1, 0, 9);
            x.add(free, 2, 0, 9);
            x.commit(free);
            Check.due("run over the refs given back", x.run(free, 10), 8);
        }
    }

    private static void changesNothingElse() {
        RefTransactions x = Check.busyStore();
        String due = Check.view(x).replace(Check.slotText(3, RefTransactions.LOCKING, 1, 2),
            Check.slotText(3, RefTransactions.ABORTED_USER, 1, 2));
        Check.due("abort", x.abort(3), RefTransactions.OK);
        Check.same("after abort", Check.view(x), due);
        int slot = Check.locking(x, 70, 3, 2);
        Check.due("run: ref 3 is free, ref 2 is not", x.run(slot, 10), 1);
        Check.due("status", x.status(slot), RefTransactions.ABORTED_LOCKED);
    }

    private static void refusesInOrder() {
        RefTransactions x = Check.busyStore();
        x.abort(3);
        for (int wrong : new int[] {Integer.MIN_VALUE, -1, 4, Integer.MAX_VALUE}) {
            Check.refused("abort(" + wrong + ")", x, () -> x.abort(wrong), RefTransactions.ERR_SLOT);
        }
        for (int slot = 0; slot < 4; slot++) {
            int tried = slot;
            Check.refused("abort of status " + x.status(slot), x, () -> x.abort(tried), RefTransactions.ERR_STATE);
        }
        RefTransactions y = new RefTransactions(4, 8, 3);
        Check.refused("abort of a FREE slot", y, () -> y.abort(0), RefTransactions.ERR_STATE);
        Check.refused("abort of a slot past S", y, () -> y.abort(3), RefTransactions.ERR_SLOT);
        Check.locking(y, 1, 0);
        y.run(0, 1);
        Check.locking(y, 1, 0);
        y.run(1, 1);
        Check.refused("abort of ABORTED_LOCKED", y, () -> y.abort(1), RefTransactions.ERR_STATE);
        y.begin();
        y.add(1, 1, 5, 6);
        y.commit(1);
        y.run(1, 1);
        Check.refused("abort of ABORTED_MISMATCH", y, () -> y.abort(1), RefTransactions.ERR_STATE);
        y.crash();
        y.recover();
        Check.refused("abort of ABORTED_CRASH", y, () -> y.abort(0), RefTransactions.ERR_STATE);
    }

    private static void worksDuringAPack() {
        RefTransactions x = new RefTransactions(4, 8, 2);
        Check.open(x, 1, 0);
        x.begin();
        x.packStart();
        x.packRun(1);
        Check.due("abort in a pack", x.abort(1), RefTransactions.OK);
        x.commit(0);
        Check.due("abort in a pack", x.abort(0), RefTransactions.OK);
        Check.due("packProgress()", x.packProgress(), 1);
    }

    private static void refusedWhileCrashed() {
        RefTransactions x = new RefTransactions(4, 8, 1);
        Check.open(x, 1, 0);
        x.crash();
        Check.due("abort crashed", x.abort(0), RefTransactions.ERR_CRASHED);
        Check.due("abort crashed", x.abort(9), RefTransactions.ERR_CRASHED);
        x.recover();
        Check.due("status(0)", x.status(0), RefTransactions.ABORTED_CRASH);
    }
}
