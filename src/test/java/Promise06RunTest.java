/** Promise 6, run itself: how many steps a call takes, what it answers, and when it is refused. */
public final class Promise06RunTest {
    private static final int[] REFS = {5, 0, 7, 2};

    public static void main(String[] args) {
        Check.start();
        for (int updates = 1; updates <= RefTransactions.MAX_UPDATES; updates++) {
            anyCount(updates);
        }
        slotOutOfRange();
        countBelowOne();
        everyStatus();
        firstFailingConditionIsAnswered();
        firstStepFailsOnALock();
        firstStepFailsOnAMismatch();
        laterStepFails();
        refusedInAPack();
        refusedWhileCrashed();
        Check.end();
    }

    /** "Any large count, up to Integer.MAX_VALUE, is accepted; steps simply stop at DONE" */
    private static void anyCount(int updates) {
        int all = 2 * updates + 2;
        for (int count : new int[] {1, all - 1, all, all + 1, 1000, Integer.MAX_VALUE - 1, Integer.MAX_VALUE}) {
            RefTransactions x = new RefTransactions(8, 8, 1);
            Check.locking(x, 10, java.util.Arrays.copyOf(REFS, updates));
            Check.due("run(0, " + count + ") from the start", x.run(0, count), Math.min(count, all));
        }
        for (int first = 1; first <= all; first++) {
            for (int count : new int[] {1, 2, all - 1, all, all + 1, Integer.MAX_VALUE - 1, Integer.MAX_VALUE}) {
                RefTransactions x = new RefTransactions(8, 8, 1);
                Check.locking(x, 10, java.util.Arrays.copyOf(REFS, updates));
                Check.due("run(0, " + first + ")", x.run(0, first), first);
                int left = all - first;
                int due = left == 0 ? RefTransactions.ERR_STATE : Math.min(count, left);
                Check.due("run(0, " + count + ") after " + first, x.run(0, count), due);
                Check.due("stepsDone(0)", x.stepsDone(0), first + Math.max(due, 0));
            }
        }
    }

    /** "slot not in 0..S-1 -> ERR_SLOT" */
    private static void slotOutOfRange() {
        for (int slots = 1; slots <= 4; slots++) {
            RefTransactions x = new RefTransactions(4, 8, slots);
            for (int n = 0; n < slots; n++) {
                Check.locking(x, 1, n);
            }
            for (int wrong : new int[] {Integer.MIN_VALUE, -2, -1, slots, slots + 1, Integer.MAX_VALUE}) {
                Check.refused("run(" + wrong + ", 1)", x, () -> x.run(wrong, 1), RefTransactions.ERR_SLOT);
            }
            Check.due("run of the last slot", x.run(slots - 1, 1), 1);
        }
    }

    /** "count < 1 -> ERR_COUNT" */
    private static void countBelowOne() {
        for (int status : new int[] {RefTransactions.LOCKING, RefTransactions.COMMITTED}) {
            RefTransactions x = Stores.slotIn(status);
            for (int wrong : new int[] {Integer.MIN_VALUE, Integer.MIN_VALUE + 1, -2, -1, 0}) {
                Check.refused("run(0, " + wrong + ")", x, () -> x.run(0, wrong), RefTransactions.ERR_COUNT);
            }
            Check.due("run(0, 1)", x.run(0, 1), 1);
        }
    }

    /** "status not LOCKING and not COMMITTED -> ERR_STATE" */
    private static void everyStatus() {
        for (int status : Stores.STATUSES) {
            RefTransactions x = Stores.slotIn(status);
            if (status == RefTransactions.LOCKING || status == RefTransactions.COMMITTED) {
                int left = 6 - x.stepsDone(0);
                Check.due("run of status " + status, x.run(0, Integer.MAX_VALUE), left);
            } else {
                Check.refused("run of status " + status, x, () -> x.run(0, 1), RefTransactions.ERR_STATE);
                Check.refused("run of status " + status, x, () -> x.run(0, Integer.MAX_VALUE),
                    RefTransactions.ERR_STATE);
            }
        }
    }

    /** Every two conditions that can fail together; the pack's are in refusedInAPack. */
    private static void firstFailingConditionIsAnswered() {
        RefTransactions x = Check.busyStore();
        for (int wrong : new int[] {Integer.MIN_VALUE, -1, 4, Integer.MAX_VALUE}) {
            Check.refused("slot before count", x, () -> x.run(wrong, 0), RefTransactions.ERR_SLOT);
            Check.refused("slot before count", x, () -> x.run(wrong, Integer.MIN_VALUE), RefTransactions.ERR_SLOT);
        }
        for (int status : Stores.STATUSES) {
            RefTransactions y = Stores.slotIn(status);
            Check.refused("count before state " + status, y, () -> y.run(0, 0), RefTransactions.ERR_COUNT);
            Check.refused("count before state " + status, y, () -> y.run(0, -1), RefTransactions.ERR_COUNT);
        }
    }

    /** "run answers 0 when its very first step is a failing lock step": case (a), for any count. */
    private static void firstStepFailsOnALock() {
        for (int count : new int[] {1, 2, Integer.MAX_VALUE}) {
            for (int holder : new int[] {RefTransactions.LOCKING, RefTransactions.COMMITTED}) {
                RefTransactions x = Stores.slotIn(holder);
                int slot = Check.locking(x, 50, 0, 7);
                String due = Check.view(x).replace(Check.slotText(slot, RefTransactions.LOCKING, 0, 2),
                    Check.slotText(slot, RefTransactions.ABORTED_LOCKED, 0, 2));
                Check.due("run(" + slot + ", " + count + ")", x.run(slot, count), 0);
                Check.same("after a first step that met a lock", Check.view(x), due);
            }
        }
    }

    /** The same of case (b). */
    private static void firstStepFailsOnAMismatch() {
        for (int count : new int[] {1, 2, Integer.MAX_VALUE}) {
            RefTransactions x = Stores.slotIn(RefTransactions.LOCKING);
            int slot = x.begin();
            x.add(slot, 6, 1, 50);
            x.add(slot, 7, 0, 51);
            x.commit(slot);
            String due = Check.view(x).replace(Check.slotText(slot, RefTransactions.LOCKING, 0, 2),
                Check.slotText(slot, RefTransactions.ABORTED_MISMATCH, 0, 2));
            Check.due("run(" + slot + ", " + count + ")", x.run(slot, count), 0);
            Check.same("after a first step that met a mismatch", Check.view(x), due);
        }
    }

    /** "A run stops after the step in which the status became ABORTED_*": no later lock and no commit step is taken. */
    private static void laterStepFails() {
        for (int fails = 0; fails < 4; fails++) {
            for (int count = 1; count <= 11; count++) {
                RefTransactions x = new RefTransactions(8, 8, 2);
                int holder = Check.locking(x, 10, fails);
                x.run(holder, 1);
                int slot = Check.locking(x, 50, 0, 1, 2, 3);
                boolean met = count > fails;
                Check.due("run(slot, " + count + ") into a lock at " + fails, x.run(slot, count), met ? fails : count);
                Check.same("the slot", Check.slot(x, slot), Check.slotText(slot,
                    met ? RefTransactions.ABORTED_LOCKED : RefTransactions.LOCKING, met ? fails : count, 4));
                Check.same("values and log", Check.values(x) + Check.log(x), "values 0 0 0 0 0 0 0 0 log");
            }
        }
    }

    /** "a pack is in progress -> ERR_BUSY", after all other conditions. */
    private static void refusedInAPack() {
        RefTransactions x = new RefTransactions(4, 8, 2);
        Check.open(x, 1, 0);
        x.packStart();
        Check.refused("run of an OPEN slot in a pack", x, () -> x.run(0, 1), RefTransactions.ERR_STATE);
        x.commit(0);
        for (int n = 0; n < RefTransactions.PACK_STEPS; n++) {
            Check.refused("run in a pack", x, () -> x.run(0, 1), RefTransactions.ERR_BUSY);
            Check.refused("run in a pack", x, () -> x.run(0, Integer.MAX_VALUE), RefTransactions.ERR_BUSY);
            Check.refused("run in a pack, wrong count", x, () -> x.run(0, 0), RefTransactions.ERR_COUNT);
            Check.refused("run in a pack, wrong slot", x, () -> x.run(2, 1), RefTransactions.ERR_SLOT);
            Check.refused("run in a pack, FREE slot", x, () -> x.run(1, 1), RefTransactions.ERR_STATE);
            x.packRun(1);
        }
        Check.due("run after the pack", x.run(0, 10), 4);
    }

    private static void refusedWhileCrashed() {
        RefTransactions x = new RefTransactions(4, 8, 1);
        Check.locking(x, 1, 0);
        x.crash();
        Check.due("run crashed", x.run(0, 1), RefTransactions.ERR_CRASHED);
        Check.due("run crashed, slot", x.run(1, 1), RefTransactions.ERR_CRASHED);
        Check.due("run crashed, count", x.run(0, 0), RefTransactions.ERR_CRASHED);
        Check.due("run crashed, both", x.run(-1, 0), RefTransactions.ERR_CRASHED);
        x.recover();
        Check.same("the slot", Check.slot(x, 0), Check.slotText(0, RefTransactions.ABORTED_CRASH, 0, 1));
    }
}
