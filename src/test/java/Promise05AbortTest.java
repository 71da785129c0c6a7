/** Promise 5: abort ends an OPEN or LOCKING slot and gives its refs back. */
public final class Promise05AbortTest {
    public static void main(String[] args) {
        Check.start();
        abortsOpen();
        abortsLockingAtEveryStep();
        changesNothingElse();
        slotOutOfRange();
        everyStatus();
        committedAtEveryStep();
        worksDuringAPack();
        refusedWhileCrashed();
        Check.end();
    }

    private static void abortsOpen() {
        RefTransactions x = new RefTransactions(4, 8, 2);
        x.begin();
        Check.due("abort of an empty slot", x.abort(0), RefTransactions.OK);
        Check.same("the slot", Check.slot(x, 0), Check.slotText(0, RefTransactions.ABORTED_USER, 0, 0));
        for (int updates = 1; updates <= RefTransactions.MAX_UPDATES; updates++) {
            Check.open(x, 1, java.util.Arrays.copyOf(new int[] {3, 1, 0, 2}, updates));
            Check.due("abort", x.abort(0), RefTransactions.OK);
            Check.same("all", Check.view(x), "values 0 0 0 0"
                + Check.slotText(0, RefTransactions.ABORTED_USER, 0, updates)
                + Check.slotText(1, RefTransactions.FREE, 0, 0) + " log pack 3");
        }
    }

    /** "the slot holds no ref any more; stepsDone and the updates are kept; values and the reflog do not change" */
    private static void abortsLockingAtEveryStep() {
        for (int steps = 0; steps <= 4; steps++) {
            RefTransactions x = new RefTransactions(4, 8, 2);
            Check.locking(x, 1, 0, 1, 2, 3);
            if (steps > 0) {
                Check.due("run", x.run(0, steps), steps);
            }
            Check.due("abort", x.abort(0), RefTransactions.OK);
            Check.same("all", Check.view(x), "values 0 0 0 0"
                + Check.slotText(0, RefTransactions.ABORTED_USER, steps, 4)
                + Check.slotText(1, RefTransactions.FREE, 0, 0) + " log pack 3");
            x.begin();
            int other = Check.locking(x, 9, 0, 1, 2, 3);
            Check.due("run over the refs given back", x.run(other, 10), 10);
        }
        // The aborted slot is left as it is here, so that the other one meets its kept updates and steps.
        RefTransactions y = new RefTransactions(4, 8, 2);
        Check.locking(y, 1, 0, 1);
        Check.locking(y, 5, 0, 1);
        y.run(0, 2);
        y.abort(0);
        Check.due("run beside the aborted slot", y.run(1, 10), 6);
    }

    /** "No other slot and no pack state changes." */
    private static void changesNothingElse() {
        RefTransactions x = Check.busyStore();
        String due = Check.view(x).replace(Check.slotText(3, RefTransactions.LOCKING, 1, 2),
            Check.slotText(3, RefTransactions.ABORTED_USER, 1, 2));
        Check.due("abort", x.abort(3), RefTransactions.OK);
        Check.same("after abort", Check.view(x), due);
        int slot = Check.locking(x, 70, 3, 2);
        Check.due("run: ref 3 is free, ref 2 is not", x.run(slot, 10), 1);
        Check.due("status", x.status(slot), RefTransactions.ABORTED_LOCKED);
    }

    /** "slot not in 0..S-1 -> ERR_SLOT" */
    private static void slotOutOfRange() {
        for (int slots = 1; slots <= 4; slots++) {
            RefTransactions x = new RefTransactions(4, 8, slots);
            for (int n = 0; n < slots; n++) {
                x.begin();
            }
            for (int wrong : new int[] {Integer.MIN_VALUE, -2, -1, slots, slots + 1, Integer.MAX_VALUE}) {
                Check.refused("abort(" + wrong + ")", x, () -> x.abort(wrong), RefTransactions.ERR_SLOT);
            }
            Check.due("abort of the last slot", x.abort(slots - 1), RefTransactions.OK);
        }
    }

    /** "A COMMITTED, DONE, FREE or already aborted slot cannot be aborted." */
    private static void everyStatus() {
        for (int status : Stores.STATUSES) {
            RefTransactions x = Stores.slotIn(status);
            if (status == RefTransactions.OPEN || status == RefTransactions.LOCKING) {
                Check.due("abort of status " + status, x.abort(0), RefTransactions.OK);
                Check.refused("abort a second time", x, () -> x.abort(0), RefTransactions.ERR_STATE);
            } else {
                Check.refused("abort of status " + status, x, () -> x.abort(0), RefTransactions.ERR_STATE);
            }
        }
    }

    /** From the commit step to the finish step no abort is taken, and the transaction goes on after it. */
    private static void committedAtEveryStep() {
        RefTransactions x = new RefTransactions(4, 8, 1);
        Check.committed(x, 1, 0, 1, 2);
        for (int step = 4; step < 8; step++) {
            Check.refused("abort at step " + step, x, () -> x.abort(0), RefTransactions.ERR_STATE);
            Check.due("run of step " + (step + 1), x.run(0, 1), 1);
        }
        Check.refused("abort after the finish step", x, () -> x.abort(0), RefTransactions.ERR_STATE);
    }

    private static void worksDuringAPack() {
        for (int done = 0; done < RefTransactions.PACK_STEPS; done++) {
            RefTransactions x = Stores.packing(done);
            String due = Check.view(x)
                .replace(Check.slotText(0, RefTransactions.LOCKING, 0, 2),
                    Check.slotText(0, RefTransactions.ABORTED_USER, 0, 2))
                .replace(Check.slotText(1, RefTransactions.OPEN, 0, 1),
                    Check.slotText(1, RefTransactions.ABORTED_USER, 0, 1));
            Check.due("abort of LOCKING at pack step " + done, x.abort(0), RefTransactions.OK);
            Check.due("abort of OPEN at pack step " + done, x.abort(1), RefTransactions.OK);
            Check.same("after abort at pack step " + done, Check.view(x), due);
            Check.refused("abort of DONE in a pack", x, () -> x.abort(2), RefTransactions.ERR_STATE);
        }
    }

    private static void refusedWhileCrashed() {
        RefTransactions x = new RefTransactions(4, 8, 2);
        Check.open(x, 1, 0);
        x.crash();
        Check.due("abort crashed", x.abort(0), RefTransactions.ERR_CRASHED);
        Check.due("abort crashed, FREE", x.abort(1), RefTransactions.ERR_CRASHED);
        Check.due("abort crashed, slot", x.abort(-1), RefTransactions.ERR_CRASHED);
        Check.due("abort crashed, slot", x.abort(9), RefTransactions.ERR_CRASHED);
        x.recover();
        Check.due("status(0)", x.status(0), RefTransactions.ABORTED_CRASH);
    }
}
