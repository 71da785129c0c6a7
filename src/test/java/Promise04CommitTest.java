/** Promise 4: commit turns an OPEN slot with updates into a LOCKING one, and takes no step. */
public final class Promise04CommitTest {
    public static void main(String[] args) {
        Check.start();
        startsLocking();
        holdsNothingYet();
        keepsTheUpdates();
        slotOutOfRange();
        slotNotOpen();
        noUpdates();
        stateComesBeforeEmpty();
        worksDuringAPack();
        refusedWhileCrashed();
        Check.end();
    }

    /** "the slot's status becomes LOCKING with stepsDone 0"; all the rest stays, for 1 to MAX_UPDATES updates. */
    private static void startsLocking() {
        for (int updates = 1; updates <= RefTransactions.MAX_UPDATES; updates++) {
            RefTransactions x = Check.busyStore();
            int slot = Check.open(x, 50, 7);
            for (int n = 1; n < updates; n++) {
                x.add(slot, 7 - n, 0, n);
            }
            String before = Check.view(x);
            Check.due("commit", x.commit(slot), RefTransactions.OK);
            Check.same("after commit", Check.view(x), before.replace(
                Check.slotText(slot, RefTransactions.OPEN, 0, updates),
                Check.slotText(slot, RefTransactions.LOCKING, 0, updates)));
        }
    }

    /** "no step is taken, so the slot holds no ref yet" */
    private static void holdsNothingYet() {
        RefTransactions x = new RefTransactions(4, 8, 2);
        int waiting = Check.locking(x, 1, 0, 1);
        int other = Check.locking(x, 5, 0, 1);
        Check.due("run over the refs of a slot that only committed", x.run(other, 10), 6);
        Check.due("then its own run", x.run(waiting, 10), 6);
        Check.same("the values", Check.values(x), "values 1 2 0 0");
    }

    /** A mismatch or a held lock is no matter of commit: both wait for the lock step. */
    private static void keepsTheUpdates() {
        RefTransactions x = Check.busyStore();
        int slot = x.begin();
        x.add(slot, 6, 0, 60);
        x.add(slot, 2, 999, 61);
        Check.due("commit of a held ref and a mismatch", x.commit(slot), RefTransactions.OK);
        x.run(2, 10);
        Check.due("run", x.run(slot, 10), 1);
        Check.due("status", x.status(slot), RefTransactions.ABORTED_MISMATCH);
    }

    /** "slot not in 0..S-1 -> ERR_SLOT" */
    private static void slotOutOfRange() {
        for (int slots = 1; slots <= 4; slots++) {
            RefTransactions x = new RefTransactions(4, 8, slots);
            for (int n = 0; n < slots; n++) {
                Check.open(x, 1, 0);
            }
            for (int wrong : new int[] {Integer.MIN_VALUE, -2, -1, slots, slots + 1, Integer.MAX_VALUE}) {
                Check.refused("commit(" + wrong + ")", x, () -> x.commit(wrong), RefTransactions.ERR_SLOT);
            }
            Check.due("commit of the last slot", x.commit(slots - 1), RefTransactions.OK);
        }
    }

    /** "status != OPEN -> ERR_STATE" */
    private static void slotNotOpen() {
        for (int status : Stores.STATUSES) {
            RefTransactions x = Stores.slotIn(status);
            if (status == RefTransactions.OPEN) {
                Check.due("commit of OPEN", x.commit(0), RefTransactions.OK);
                Check.refused("commit a second time", x, () -> x.commit(0), RefTransactions.ERR_STATE);
            } else {
                Check.refused("commit of status " + status, x, () -> x.commit(0), RefTransactions.ERR_STATE);
            }
        }
    }

    /** "0 updates -> ERR_EMPTY", until there is one. */
    private static void noUpdates() {
        RefTransactions x = new RefTransactions(4, 8, 2);
        Check.open(x, 1, 0);
        x.begin();
        Check.refused("commit of no updates", x, () -> x.commit(1), RefTransactions.ERR_EMPTY);
        x.add(1, 4, 0, 1);
        x.add(1, 0, 0, -1);
        Check.refused("commit after refused adds", x, () -> x.commit(1), RefTransactions.ERR_EMPTY);
        Check.due("add", x.add(1, 0, 0, 1), RefTransactions.OK);
        Check.due("commit of one update", x.commit(1), RefTransactions.OK);
    }

    private static void stateComesBeforeEmpty() {
        RefTransactions x = new RefTransactions(4, 8, 2);
        Check.refused("commit of an empty FREE slot", x, () -> x.commit(0), RefTransactions.ERR_STATE);
        x.begin();
        x.abort(0);
        Check.refused("commit of an empty ABORTED_USER slot", x, () -> x.commit(0), RefTransactions.ERR_STATE);
        x.begin();
        x.crash();
        x.recover();
        Check.refused("commit of an empty ABORTED_CRASH slot", x, () -> x.commit(0), RefTransactions.ERR_STATE);
    }

    /** "commit is allowed while a pack is in progress." */
    private static void worksDuringAPack() {
        for (int done = 0; done < RefTransactions.PACK_STEPS; done++) {
            RefTransactions x = Stores.packing(done);
            String due = Check.view(x).replace(Check.slotText(1, RefTransactions.OPEN, 0, 1),
                Check.slotText(1, RefTransactions.LOCKING, 0, 1));
            Check.due("commit at pack step " + done, x.commit(1), RefTransactions.OK);
            Check.same("after commit at pack step " + done, Check.view(x), due);
            x.begin();
            Check.refused("commit in a pack, empty", x, () -> x.commit(2), RefTransactions.ERR_EMPTY);
        }
    }

    private static void refusedWhileCrashed() {
        RefTransactions x = new RefTransactions(4, 8, 2);
        Check.open(x, 1, 0);
        x.begin();
        x.crash();
        Check.due("commit crashed", x.commit(0), RefTransactions.ERR_CRASHED);
        Check.due("commit crashed, empty", x.commit(1), RefTransactions.ERR_CRASHED);
        Check.due("commit crashed, slot", x.commit(-1), RefTransactions.ERR_CRASHED);
        Check.due("commit crashed, slot", x.commit(2), RefTransactions.ERR_CRASHED);
        x.recover();
        Check.due("status(0)", x.status(0), RefTransactions.ABORTED_CRASH);
    }
}
