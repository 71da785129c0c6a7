/** Promise 7: packStart begins a pack when no pack and no transaction runs. */
public final class Promise07PackStartTest {
    public static void main(String[] args) {
        Check.start();
        startsAndChangesNothingElse();
        refusedDuringAPack();
        everyStatus();
        refusedBesideRunningSlots();
        refusedByPackAndSlotAtOnce();
        allowedAgainAfterEveryEnd();
        refusedWhileCrashed();
        Check.end();
    }

    private static void startsAndChangesNothingElse() {
        RefTransactions x = new RefTransactions(8, 8, 4);
        Check.due("packStart() of a new store", x.packStart(), RefTransactions.OK);
        Check.due("packProgress()", x.packProgress(), 0);

        RefTransactions y = Check.busyStore();
        y.run(2, 10);
        y.abort(3);
        Check.open(y, 60, 5, 6);
        String before = Check.view(y);
        Check.due("packStart() beside OPEN, DONE and aborted slots", y.packStart(), RefTransactions.OK);
        Check.same("after packStart", Check.view(y), before.replace("pack 3", "pack 0"));
    }

    /** "a pack is in progress -> ERR_BUSY", at each packDone; packDone does not go back to 0. */
    private static void refusedDuringAPack() {
        RefTransactions x = new RefTransactions(8, 8, 1);
        x.packStart();
        Check.refused("packStart() at 0", x, x::packStart, RefTransactions.ERR_BUSY);
        x.packRun(1);
        Check.refused("packStart() at 1", x, x::packStart, RefTransactions.ERR_BUSY);
        x.packRun(1);
        Check.refused("packStart() at 2", x, x::packStart, RefTransactions.ERR_BUSY);
        x.packRun(1);
        Check.due("packStart() after the pack", x.packStart(), RefTransactions.OK);
        Check.due("packProgress()", x.packProgress(), 0);
    }

    /** "some slot is LOCKING or COMMITTED -> ERR_BUSY"; no other status is in the way. */
    private static void everyStatus() {
        for (int status : Stores.STATUSES) {
            RefTransactions x = Stores.slotIn(status);
            if (status == RefTransactions.LOCKING || status == RefTransactions.COMMITTED) {
                Check.refused("packStart() beside " + status, x, x::packStart, RefTransactions.ERR_BUSY);
            } else {
                String due = Check.view(x).replace("pack 3", "pack 0");
                Check.due("packStart() beside " + status, x.packStart(), RefTransactions.OK);
                Check.same("after packStart beside " + status, Check.view(x), due);
            }
        }
    }

    /** In any one of the slots, from commit on to the step before the finish step. */
    private static void refusedBesideRunningSlots() {
        for (int slot = 0; slot < 4; slot++) {
            RefTransactions x = new RefTransactions(8, 8, 4);
            for (int n = 0; n < 4; n++) {
                Check.open(x, 1, n);
            }
            x.commit(slot);
            for (int step = 0; step < 4; step++) {
                Check.refused("packStart() at step " + step, x, x::packStart, RefTransactions.ERR_BUSY);
                x.run(slot, 1);
            }
            Check.due("packStart() after the finish step", x.packStart(), RefTransactions.OK);
        }
    }

    private static void refusedByPackAndSlotAtOnce() {
        for (int done = 0; done < RefTransactions.PACK_STEPS; done++) {
            RefTransactions x = Stores.packing(done);
            Check.due("status(0)", x.status(0), RefTransactions.LOCKING);
            Check.refused("packStart() at " + done, x, x::packStart, RefTransactions.ERR_BUSY);
            x.packRun(3);
            Check.refused("packStart() after the pack, beside LOCKING", x, x::packStart, RefTransactions.ERR_BUSY);
        }
    }

    /** A pack may start as soon as the last running slot has ended, in whichever way it ended. */
    private static void allowedAgainAfterEveryEnd() {
        RefTransactions x = Stores.slotIn(RefTransactions.LOCKING);
        x.abort(0);
        Check.due("packStart() after abort", x.packStart(), RefTransactions.OK);

        RefTransactions y = Stores.slotIn(RefTransactions.COMMITTED);
        int other = Check.locking(y, 5, 1);
        Check.due("run into a lock", y.run(other, 1), 0);
        Check.refused("packStart() beside COMMITTED", y, y::packStart, RefTransactions.ERR_BUSY);
        y.crash();
        y.recover();
        Check.due("packStart() after a crash", y.packStart(), RefTransactions.OK);
    }

    private static void refusedWhileCrashed() {
        RefTransactions x = new RefTransactions(8, 8, 1);
        x.crash();
        Check.due("packStart() crashed", x.packStart(), RefTransactions.ERR_CRASHED);
        x.recover();
        Check.due("packProgress()", x.packProgress(), RefTransactions.PACK_STEPS);
    }
}
