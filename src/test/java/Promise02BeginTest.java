/** Promise 2: begin takes the lowest slot that is not in use. */
public final class Promise02BeginTest {
    public static void main(String[] args) {
        Check.start();
        takesFreeSlotsInOrder();
        fullForEveryNumberOfSlots();
        fullAtEveryStepOfATransaction();
        fullDuringAPack();
        takesEveryEndedStatus();
        neverTakesASlotInUse();
        takesTheLowestEndedSlot();
        changesNothingElse();
        earlierUpdatesAreGone();
        heldRefsStayHeld();
        worksDuringAPack();
        refusedWhileCrashed();
        Check.end();
    }

    private static void takesFreeSlotsInOrder() {
        RefTransactions x = new RefTransactions(4, 8, 4);
        for (int slot = 0; slot < 4; slot++) {
            Check.due("begin()", x.begin(), slot);
            Check.same("the new slot", Check.slot(x, slot), Check.slotText(slot, RefTransactions.OPEN, 0, 0));
        }
        Check.refused("begin()", x, x::begin, RefTransactions.ERR_FULL);
    }

    /** "no slot has status FREE, DONE or ABORTED_* -> ERR_FULL", and one ended slot is enough again. */
    private static void fullForEveryNumberOfSlots() {
        for (int slots = 1; slots <= 4; slots++) {
            for (int ended = 0; ended < slots; ended++) {
                RefTransactions x = new RefTransactions(4, 8, slots);
                for (int n = 0; n < slots; n++) {
                    x.begin();
                }
                Check.refused("begin() of " + slots + " OPEN slots", x, x::begin, RefTransactions.ERR_FULL);
                x.abort(ended);
                Check.due("begin() with slot " + ended + " ended", x.begin(), ended);
                Check.refused("begin() once more", x, x::begin, RefTransactions.ERR_FULL);
            }
        }
    }

    private static void fullAtEveryStepOfATransaction() {
        RefTransactions x = new RefTransactions(4, 8, 1);
        Check.open(x, 1, 0, 1, 2);
        Check.refused("begin() beside OPEN", x, x::begin, RefTransactions.ERR_FULL);
        x.commit(0);
        for (int step = 0; step < 8; step++) {
            Check.refused("begin() at step " + step, x, x::begin, RefTransactions.ERR_FULL);
            x.run(0, 1);
        }
        Check.due("begin() after the finish step", x.begin(), 0);
    }

    private static void fullDuringAPack() {
        RefTransactions x = new RefTransactions(4, 8, 2);
        Check.open(x, 1, 0);
        Check.open(x, 1, 1);
        x.packStart();
        x.commit(1);
        for (int n = 0; n < RefTransactions.PACK_STEPS; n++) {
            Check.refused("begin() at pack step " + n, x, x::begin, RefTransactions.ERR_FULL);
            x.packRun(1);
        }
    }

    /** "the lowest-numbered slot whose status is FREE, DONE or ABORTED_* gets 0 updates, stepsDone 0 and status OPEN" */
    private static void takesEveryEndedStatus() {
        reopens(Stores.slotIn(RefTransactions.FREE));
        for (int status : Stores.ENDED) {
            RefTransactions x = Stores.slotIn(status);
            Check.due("updateCount(0) before begin", x.updateCount(0), 2);
            Check.due("stepsDone(0) before begin", x.stepsDone(0), status == RefTransactions.DONE ? 6 : 1);
            reopens(x);
        }
    }

    private static void reopens(RefTransactions x) {
        String before = Check.slot(x, 0);
        String due = Check.view(x).replace(before, Check.slotText(0, RefTransactions.OPEN, 0, 0));
        Check.due("begin() on" + before, x.begin(), 0);
        Check.same("after begin on" + before, Check.view(x), due);
    }

    /** "Slots that are OPEN, LOCKING or COMMITTED are never chosen." */
    private static void neverTakesASlotInUse() {
        RefTransactions x = new RefTransactions(8, 8, 4);
        Check.open(x, 1, 0);
        Check.locking(x, 2, 1);
        Check.committed(x, 3, 2);
        Check.due("begin() above OPEN, LOCKING, COMMITTED", x.begin(), 3);
        Check.refused("begin() with OPEN, LOCKING, COMMITTED, OPEN", x, x::begin, RefTransactions.ERR_FULL);
    }

    private static void takesTheLowestEndedSlot() {
        RefTransactions x = new RefTransactions(8, 8, 4);
        for (int n = 0; n < 4; n++) {
            Check.open(x, n + 1, n);
        }
        x.abort(3);
        x.abort(1);
        Check.due("begin()", x.begin(), 1);
        Check.due("begin()", x.begin(), 3);
        Check.due("begin()", x.begin(), RefTransactions.ERR_FULL);

        RefTransactions y = new RefTransactions(8, 8, 4);
        Check.open(y, 1, 0);
        Check.done(y, 1, 1);
        Check.due("begin() with OPEN, DONE, FREE, FREE", y.begin(), 1);
        Check.due("begin() with OPEN, OPEN, FREE, FREE", y.begin(), 2);
    }

    /** "Nothing else changes: no value, no reflog entry, no other slot, no pack state." */
    private static void changesNothingElse() {
        RefTransactions x = Check.busyStore();
        String due = Check.view(x).replace(Check.slotText(0, RefTransactions.DONE, 6, 2),
            Check.slotText(0, RefTransactions.OPEN, 0, 0));
        Check.due("begin()", x.begin(), 0);
        Check.same("after begin", Check.view(x), due);
    }

    /** "Its earlier updates are gone." */
    private static void earlierUpdatesAreGone() {
        for (int status : Stores.ENDED) {
            RefTransactions x = Stores.slotIn(status);
            int had = x.value(1);
            x.begin();
            Check.refused("commit after begin on " + status, x, () -> x.commit(0), RefTransactions.ERR_EMPTY);
            Check.due("add of a ref named before", x.add(0, 1, had, 99), RefTransactions.OK);
            x.commit(0);
            Check.due("run of the one new update", x.run(0, 10), 4);
            Check.due("value(1)", x.value(1), 99);
            Check.due("value(0)", x.value(0), status == RefTransactions.DONE ? 10 : 0);
        }
        RefTransactions y = new RefTransactions(4, 8, 1);
        Check.done(y, 7, 0, 1, 2, 3);
        y.begin();
        for (int ref = 0; ref < 4; ref++) {
            Check.due("add after MAX_UPDATES earlier ones", y.add(0, ref, 7 + ref, 0), RefTransactions.OK);
        }
    }

    /** A new OPEN slot neither holds a ref nor frees one. */
    private static void heldRefsStayHeld() {
        RefTransactions x = Check.busyStore();
        int slot = x.begin();
        x.add(slot, 3, RefTransactions.ANY, 1);
        x.commit(slot);
        Check.due("run into slot 3's lock", x.run(slot, 1), 0);
        Check.due("begin()", x.begin(), slot);
        x.add(slot, 2, RefTransactions.ANY, 1);
        x.commit(slot);
        Check.due("run into slot 2's lock", x.run(slot, 1), 0);
    }

    /** "begin is allowed while a pack is in progress." */
    private static void worksDuringAPack() {
        for (int done = 0; done < RefTransactions.PACK_STEPS; done++) {
            RefTransactions x = Stores.packing(done);
            String due = Check.view(x).replace(Check.slotText(2, RefTransactions.DONE, 6, 2),
                Check.slotText(2, RefTransactions.OPEN, 0, 0));
            Check.due("begin() at pack step " + done, x.begin(), 2);
            Check.same("after begin at pack step " + done, Check.view(x), due);
        }
    }

    private static void refusedWhileCrashed() {
        RefTransactions x = new RefTransactions(4, 8, 1);
        x.begin();
        String before = Check.view(x).replace("status 1", "status 7");
        x.crash();
        Check.due("begin() crashed", x.begin(), RefTransactions.ERR_CRASHED);
        x.recover();
        Check.same("after the refused begin", Check.view(x), before);
    }
}
