/** Promise 3: add appends an update to an OPEN slot and looks at nothing else. */
public final class Promise03AddTest {
    private static final int LOW = Integer.MIN_VALUE;
    private static final int HIGH = Integer.MAX_VALUE;

    public static void main(String[] args) {
        Check.start();
        appends();
        everyExpectedFromTheLeastToTheGreatest();
        everyNewValueFromTheLeastToTheGreatest();
        everyRefFromTheLeastToTheGreatest();
        slotOutOfRange();
        slotNotOpen();
        refOutOfRange();
        expectedBelowAny();
        newValueBelowZero();
        slotAlreadyFull();
        refNamedTwice();
        firstFailingConditionIsAnswered();
        refusedUpdatesLeaveNoTrace();
        takesNoLockAndLooksAtNoValue();
        keepsTheOtherSlotsUpdates();
        worksDuringAPack();
        refusedWhileCrashed();
        Check.end();
    }

    /** "the update is appended, the slot's update count grows by one, and add answers OK"; nothing else changes. */
    private static void appends() {
        RefTransactions x = Check.busyStore();
        int slot = x.begin();
        String before = Check.view(x);
        for (int n = 1; n <= RefTransactions.MAX_UPDATES; n++) {
            Check.due("add", x.add(slot, 8 - n, RefTransactions.ANY, n), RefTransactions.OK);
            Check.same("after add " + n, Check.view(x), before.replace(
                Check.slotText(slot, RefTransactions.OPEN, 0, 0), Check.slotText(slot, RefTransactions.OPEN, 0, n)));
        }
        x.run(2, 10);
        x.abort(3);
        x.commit(slot);
        Check.due("run", x.run(slot, 10), 10);
        Check.same("the log in add order", Check.log(x), " log (2 0 30) (0 0 10) (1 0 11) (7 0 1) (6 0 2) (5 0 3) (4 0 4)");
    }

    /** "Any expected from -1 up to Integer.MAX_VALUE", and each is the one that the lock step looks at. */
    private static void everyExpectedFromTheLeastToTheGreatest() {
        int[] expected = {-1, 0, 1, 2, HIGH - 1, HIGH};
        for (int held : new int[] {0, 1, 2, HIGH - 1, HIGH}) {
            for (int asked : expected) {
                RefTransactions x = new RefTransactions(4, 8, 1);
                Check.done(x, held, 2);
                x.begin();
                Check.due("add expecting " + asked, x.add(0, 2, asked, 5), RefTransactions.OK);
                Check.due("updateCount(0)", x.updateCount(0), 1);
                x.commit(0);
                boolean met = asked == RefTransactions.ANY || asked == held;
                Check.due("run expecting " + asked + " of " + held, x.run(0, HIGH), met ? 4 : 0);
                Check.due("value(2)", x.value(2), met ? 5 : held);
            }
        }
    }

    /** "any newValue from 0 up to Integer.MAX_VALUE is accepted": 0 deletes the ref, all others set it. */
    private static void everyNewValueFromTheLeastToTheGreatest() {
        for (int written : new int[] {0, 1, 2, HIGH - 1, HIGH}) {
            RefTransactions x = new RefTransactions(4, 8, 1);
            Check.done(x, 7, 3);
            x.begin();
            Check.due("add of value " + written, x.add(0, 3, 7, written), RefTransactions.OK);
            x.commit(0);
            Check.due("run", x.run(0, HIGH), 4);
            Check.due("value(3)", x.value(3), written);
            Check.due("the entry's new value", x.logEntry(1, RefTransactions.LOG_NEW), written);
        }
    }

    private static void everyRefFromTheLeastToTheGreatest() {
        for (int refs : new int[] {4, 5, 15, 16}) {
            for (int ref = 0; ref < refs; ref++) {
                RefTransactions x = new RefTransactions(refs, 8, 1);
                x.begin();
                Check.due("add of ref " + ref + " of " + refs, x.add(0, ref, 0, 1), RefTransactions.OK);
            }
        }
    }

    /** "slot not in 0..S-1 -> ERR_SLOT" */
    private static void slotOutOfRange() {
        for (int slots = 1; slots <= 4; slots++) {
            RefTransactions x = new RefTransactions(4, 8, slots);
            for (int n = 0; n < slots; n++) {
                x.begin();
            }
            for (int wrong : new int[] {LOW, LOW + 1, -2, -1, slots, slots + 1, 16, HIGH}) {
                Check.refused("add(" + wrong + ") of " + slots, x, () -> x.add(wrong, 0, 0, 1), RefTransactions.ERR_SLOT);
            }
            Check.due("add to the last slot", x.add(slots - 1, 0, 0, 1), RefTransactions.OK);
        }
    }

    /** "the slot's status != OPEN -> ERR_STATE" */
    private static void slotNotOpen() {
        for (int status : Stores.STATUSES) {
            RefTransactions x = Stores.slotIn(status);
            if (status == RefTransactions.OPEN) {
                Check.due("add to OPEN", x.add(0, 7, 0, 1), RefTransactions.OK);
            } else {
                Check.refused("add to status " + status, x, () -> x.add(0, 7, 0, 1), RefTransactions.ERR_STATE);
            }
        }
    }

    /** "ref not in 0..R-1 -> ERR_REF" */
    private static void refOutOfRange() {
        for (int refs : new int[] {4, 5, 15, 16}) {
            RefTransactions x = new RefTransactions(refs, 8, 1);
            x.begin();
            for (int wrong : new int[] {LOW, LOW + 1, -2, -1, refs, refs + 1, 17, HIGH}) {
                Check.refused("add of ref " + wrong, x, () -> x.add(0, wrong, 0, 1), RefTransactions.ERR_REF);
            }
        }
    }

    /** "expected < -1 -> ERR_VALUE" */
    private static void expectedBelowAny() {
        RefTransactions x = Stores.slotIn(RefTransactions.OPEN);
        for (int wrong : new int[] {LOW, LOW + 1, -3, -2}) {
            Check.refused("add expecting " + wrong, x, () -> x.add(0, 2, wrong, 1), RefTransactions.ERR_VALUE);
        }
        Check.due("add expecting -1", x.add(0, 2, -1, 1), RefTransactions.OK);
    }

    /** "newValue < 0 -> ERR_VALUE"; ANY is no exception here. */
    private static void newValueBelowZero() {
        RefTransactions x = Stores.slotIn(RefTransactions.OPEN);
        for (int wrong : new int[] {LOW, LOW + 1, -2, RefTransactions.ANY}) {
            Check.refused("add of value " + wrong, x, () -> x.add(0, 2, 0, wrong), RefTransactions.ERR_VALUE);
        }
        Check.due("add of value 0", x.add(0, 2, 0, 0), RefTransactions.OK);
    }

    /** "the slot already has MAX_UPDATES updates -> ERR_FULL" */
    private static void slotAlreadyFull() {
        RefTransactions x = new RefTransactions(8, 8, 2);
        x.begin();
        x.begin();
        for (int ref = 0; ref < RefTransactions.MAX_UPDATES; ref++) {
            Check.due("add number " + ref, x.add(0, ref, 0, 1), RefTransactions.OK);
        }
        for (int ref = 4; ref < 8; ref++) {
            int fifth = ref;
            Check.refused("add of a fifth", x, () -> x.add(0, fifth, 0, 1), RefTransactions.ERR_FULL);
        }
        Check.due("add to the other slot", x.add(1, 0, 0, 1), RefTransactions.OK);
    }

    /** "an update of the slot already names ref -> ERR_DUP", whatever the two ask for, and in this slot only. */
    private static void refNamedTwice() {
        RefTransactions x = new RefTransactions(8, 8, 2);
        x.begin();
        x.begin();
        for (int n = 0; n < 3; n++) {
            Check.due("add", x.add(0, 2 * n, 0, 1), RefTransactions.OK);
            for (int named = 0; named <= n; named++) {
                int ref = 2 * named;
                Check.refused("add of ref " + ref + " again", x, () -> x.add(0, ref, 0, 1), RefTransactions.ERR_DUP);
                Check.refused("add of ref " + ref + " again", x, () -> x.add(0, ref, 5, 6), RefTransactions.ERR_DUP);
                Check.refused("add of ref " + ref + " again", x, () -> x.add(0, ref, -1, 0), RefTransactions.ERR_DUP);
            }
            Check.due("add of the same ref elsewhere", x.add(1, 2 * n, 0, 1), RefTransactions.OK);
        }
    }

    /** "A refused mutator answers the first failing error code": every two conditions that can fail together. */
    private static void firstFailingConditionIsAnswered() {
        RefTransactions x = Stores.full();
        Check.refused("slot before ref", x, () -> x.add(2, 5, 0, 1), RefTransactions.ERR_SLOT);
        Check.refused("slot before expected", x, () -> x.add(2, 0, -2, 1), RefTransactions.ERR_SLOT);
        Check.refused("slot before newValue", x, () -> x.add(-1, 0, 0, -1), RefTransactions.ERR_SLOT);
        Check.refused("slot before all", x, () -> x.add(-1, -1, -2, -1), RefTransactions.ERR_SLOT);
        Check.refused("ref before expected", x, () -> x.add(0, 5, -2, 1), RefTransactions.ERR_REF);
        Check.refused("ref before newValue", x, () -> x.add(0, -1, 0, -1), RefTransactions.ERR_REF);
        Check.refused("ref before full", x, () -> x.add(0, 5, 0, 1), RefTransactions.ERR_REF);
        Check.refused("expected before newValue", x, () -> x.add(0, 4, -2, -1), RefTransactions.ERR_VALUE);
        Check.refused("expected before full", x, () -> x.add(0, 4, -2, 1), RefTransactions.ERR_VALUE);
        Check.refused("newValue before full", x, () -> x.add(0, 4, 0, -1), RefTransactions.ERR_VALUE);
        Check.refused("full before named", x, () -> x.add(0, 0, 0, 1), RefTransactions.ERR_FULL);

        RefTransactions y = Stores.slotIn(RefTransactions.OPEN);
        Check.refused("expected before named", y, () -> y.add(0, 0, -2, 1), RefTransactions.ERR_VALUE);
        Check.refused("newValue before named", y, () -> y.add(0, 0, 0, -1), RefTransactions.ERR_VALUE);

        for (int status : Stores.STATUSES) {
            if (status != RefTransactions.OPEN) {
                stateComesBeforeTheRest(Stores.slotIn(status));
            }
        }
        x.commit(0);
        Check.refused("state before full", x, () -> x.add(0, 4, 0, 1), RefTransactions.ERR_STATE);
    }

    private static void stateComesBeforeTheRest(RefTransactions x) {
        Check.refused("state before ref", x, () -> x.add(0, 8, 0, 1), RefTransactions.ERR_STATE);
        Check.refused("state before expected", x, () -> x.add(0, 7, -2, 1), RefTransactions.ERR_STATE);
        Check.refused("state before newValue", x, () -> x.add(0, 7, 0, -1), RefTransactions.ERR_STATE);
        Check.refused("state before named", x, () -> x.add(0, 0, 0, 1), RefTransactions.ERR_STATE);
    }

    private static void refusedUpdatesLeaveNoTrace() {
        RefTransactions x = new RefTransactions(5, 8, 1);
        x.begin();
        for (int ref = 0; ref < RefTransactions.MAX_UPDATES; ref++) {
            x.add(0, ref, -2, 90);
            x.add(0, ref, 0, -1);
            x.add(0, 5, 0, 91);
            Check.due("add", x.add(0, ref, 0, 1 + ref), RefTransactions.OK);
            x.add(0, ref, 0, 92);
            x.add(0, 0, 3, 93);
        }
        x.add(0, 4, 0, 94);
        x.commit(0);
        x.add(0, 4, 0, 95);
        Check.due("run", x.run(0, 10), 10);
        Check.same("only the accepted updates", Check.values(x) + Check.log(x),
            "values 1 2 3 4 0 log (0 0 1) (1 0 2) (2 0 3) (3 0 4)");
    }

    /** "no lock is taken. Whether expected matches the ref's value is not looked at here" */
    private static void takesNoLockAndLooksAtNoValue() {
        RefTransactions x = Check.busyStore();
        int slot = x.begin();
        Check.due("add of a held ref", x.add(slot, 2, RefTransactions.ANY, 1), RefTransactions.OK);
        Check.due("add of a mismatch", x.add(slot, 0, 999, 1), RefTransactions.OK);
        Check.due("add of a ref that another will lock", x.add(slot, 4, 0, 1), RefTransactions.OK);
        Check.due("run of the other slot", x.run(3, 1), 1);
    }

    private static void keepsTheOtherSlotsUpdates() {
        RefTransactions x = new RefTransactions(16, 32, 4);
        for (int slot = 0; slot < 4; slot++) {
            x.begin();
        }
        for (int n = 0; n < 4; n++) {
            for (int slot = 3; slot >= 0; slot--) {
                x.add(slot, 4 * slot + n, 0, 100 * slot + n + 1);
            }
        }
        for (int slot = 0; slot < 4; slot++) {
            x.commit(slot);
            Check.due("run", x.run(slot, 10), 10);
        }
        Check.same("every slot's own updates", Check.values(x),
            "values 1 2 3 4 101 102 103 104 201 202 203 204 301 302 303 304");
    }

    /** "add is allowed while a pack is in progress." */
    private static void worksDuringAPack() {
        for (int done = 0; done < RefTransactions.PACK_STEPS; done++) {
            RefTransactions x = Stores.packing(done);
            String due = Check.view(x).replace(Check.slotText(1, RefTransactions.OPEN, 0, 1),
                Check.slotText(1, RefTransactions.OPEN, 0, 2));
            Check.due("add at pack step " + done, x.add(1, 5, 0, 1), RefTransactions.OK);
            Check.same("after add at pack step " + done, Check.view(x), due);
            Check.refused("add in a pack, named", x, () -> x.add(1, 5, 0, 1), RefTransactions.ERR_DUP);
            Check.refused("add in a pack, LOCKING", x, () -> x.add(0, 5, 0, 1), RefTransactions.ERR_STATE);
        }
    }

    private static void refusedWhileCrashed() {
        RefTransactions x = new RefTransactions(4, 8, 1);
        Check.open(x, 1, 2);
        x.crash();
        Check.due("add crashed", x.add(0, 1, 0, 1), RefTransactions.ERR_CRASHED);
        Check.due("add crashed, slot", x.add(-1, 1, 0, 1), RefTransactions.ERR_CRASHED);
        Check.due("add crashed, ref", x.add(0, 4, 0, 1), RefTransactions.ERR_CRASHED);
        Check.due("add crashed, expected", x.add(0, 1, -2, 1), RefTransactions.ERR_CRASHED);
        Check.due("add crashed, newValue", x.add(0, 1, 0, -1), RefTransactions.ERR_CRASHED);
        Check.due("add crashed, named", x.add(0, 2, 0, 1), RefTransactions.ERR_CRASHED);
        Check.due("add crashed, all", x.add(-1, 9, -2, -1), RefTransactions.ERR_CRASHED);
        x.recover();
        Check.same("the slot", Check.slot(x, 0), Check.slotText(0, RefTransactions.ABORTED_CRASH, 0, 1));
    }
}
