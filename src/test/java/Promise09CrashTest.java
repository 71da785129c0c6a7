/** Promise 9: crash settles every slot, ends a pack, and shuts every call but recover. */
public final class Promise09CrashTest {
    public static void main(String[] args) {
        Check.start();
        for (int updates = 1; updates <= RefTransactions.MAX_UPDATES; updates++) {
            for (int steps = 0; steps <= 2 * updates + 2; steps++) {
                atEveryStep(updates, steps);
            }
        }
        everyStatus();
        settlesEverySlot();
        keepsAbortedSlots();
        givesTheRefsBack();
        endsAPack();
        refusedWhileCrashed();
        shutsEveryCall();
        Check.end();
    }

    /** "COMMITTED becomes DONE with stepsDone = 2k+2"; LOCKING keeps stepsDone; values and the reflog stay. */
    private static void atEveryStep(int updates, int steps) {
        RefTransactions x = new RefTransactions(8, 8, 1);
        Check.done(x, 3, 0, 1);
        Check.locking(x, 10, java.util.Arrays.copyOf(new int[] {1, 4, 2, 0}, updates));
        if (steps > 0) {
            x.run(0, steps);
        }
        String kept = Check.values(x) + Check.log(x);
        Check.due("crash()", x.crash(), RefTransactions.OK);
        Check.due("recover()", x.recover(), RefTransactions.OK);
        boolean lost = steps <= updates;
        Check.same("the slot crashed at step " + steps, Check.slot(x, 0), lost
            ? Check.slotText(0, RefTransactions.ABORTED_CRASH, steps, updates)
            : Check.slotText(0, RefTransactions.DONE, 2 * updates + 2, updates));
        Check.same("values and log", Check.values(x) + Check.log(x), kept);
    }

    /** The document's table, status by status. */
    private static void everyStatus() {
        for (int status : Stores.STATUSES) {
            RefTransactions x = Stores.slotIn(status);
            String kept = Check.values(x) + Check.log(x);
            int steps = x.stepsDone(0);
            int updates = x.updateCount(0);
            Check.due("crash() beside " + status, x.crash(), RefTransactions.OK);
            x.recover();
            boolean lost = status == RefTransactions.OPEN || status == RefTransactions.LOCKING;
            boolean committed = status == RefTransactions.COMMITTED;
            int due = lost ? RefTransactions.ABORTED_CRASH : committed ? RefTransactions.DONE : status;
            Check.same("a slot that was " + status, Check.slot(x, 0),
                Check.slotText(0, due, committed ? 6 : steps, updates));
            Check.same("values and log beside " + status, Check.values(x) + Check.log(x), kept);
        }
    }

    private static void settlesEverySlot() {
        RefTransactions x = Check.busyStore();
        x.crash();
        x.recover();
        Check.same("after the crash", Check.view(x), "values 10 11 30 0 0 0 0 0"
            + Check.slotText(0, RefTransactions.DONE, 6, 2) + Check.slotText(1, RefTransactions.ABORTED_USER, 0, 1)
            + Check.slotText(2, RefTransactions.DONE, 4, 1) + Check.slotText(3, RefTransactions.ABORTED_CRASH, 1, 2)
            + " log (2 0 30) (0 0 10) (1 0 11) pack 3");

        RefTransactions y = new RefTransactions(8, 8, 4);
        y.begin();
        Check.open(y, 1, 0, 1, 2);
        y.crash();
        y.recover();
        Check.same("OPEN and FREE slots", Check.slots(y), Check.slotText(0, RefTransactions.ABORTED_CRASH, 0, 0)
            + Check.slotText(1, RefTransactions.ABORTED_CRASH, 0, 3)
            + Check.slotText(2, RefTransactions.FREE, 0, 0) + Check.slotText(3, RefTransactions.FREE, 0, 0));
    }

    private static void keepsAbortedSlots() {
        RefTransactions x = new RefTransactions(8, 8, 4);
        Check.locking(x, 1, 0);
        x.run(0, 1);
        Check.locking(x, 1, 1, 0);
        x.begin();
        x.add(2, 2, 0, 1);
        x.add(2, 3, 9, 1);
        x.commit(2);
        x.run(1, 5);
        x.run(2, 5);
        for (int n = 0; n < 2; n++) {
            x.crash();
            x.recover();
            Check.same("aborted slots", Check.slots(x), Check.slotText(0, RefTransactions.ABORTED_CRASH, 1, 1)
                + Check.slotText(1, RefTransactions.ABORTED_LOCKED, 1, 2)
                + Check.slotText(2, RefTransactions.ABORTED_MISMATCH, 1, 2)
                + Check.slotText(3, RefTransactions.FREE, 0, 0));
        }
    }

    /** "Afterwards no slot holds any ref." */
    private static void givesTheRefsBack() {
        RefTransactions x = Check.busyStore();
        x.crash();
        x.recover();
        Check.done(x, 80, 2, 3, 4);
        Check.same("the values", Check.values(x), "values 10 11 80 81 82 0 0 0");
    }

    /** "Any pack in progress ends without visible effect." */
    private static void endsAPack() {
        for (int steps = 0; steps < RefTransactions.PACK_STEPS; steps++) {
            RefTransactions x = new RefTransactions(8, 8, 2);
            Check.done(x, 5, 0, 1);
            String before = Check.view(x);
            x.packStart();
            if (steps > 0) {
                x.packRun(steps);
            }
            x.crash();
            x.recover();
            Check.same("after a crash at pack step " + steps, Check.view(x), before);
            Check.due("packRun(1)", x.packRun(1), RefTransactions.ERR_STATE);
            Check.due("packStart()", x.packStart(), RefTransactions.OK);
            Check.due("packProgress()", x.packProgress(), 0);
        }
    }

    /** "crashed -> ERR_CRASHED", and the first crash is not undone or repeated by the second. */
    private static void refusedWhileCrashed() {
        for (int status : Stores.STATUSES) {
            RefTransactions once = Stores.slotIn(status);
            RefTransactions twice = Stores.slotIn(status);
            once.crash();
            twice.crash();
            Check.due("crash() again", twice.crash(), RefTransactions.ERR_CRASHED);
            Check.due("crash() once more", twice.crash(), RefTransactions.ERR_CRASHED);
            Check.same("a crash refused beside " + status, Stores.future(twice), Stores.future(once));
        }
    }

    /** "From then on every call except recover() answers ERR_CRASHED and changes nothing." */
    private static void shutsEveryCall() {
        RefTransactions x = Check.busyStore();
        x.crash();
        for (int n : Check.EDGES) {
            Check.due("crash() crashed", x.crash(), RefTransactions.ERR_CRASHED);
            Check.due("begin() crashed", x.begin(), RefTransactions.ERR_CRASHED);
            Check.due("add crashed", x.add(n, n, n, n), RefTransactions.ERR_CRASHED);
            Check.due("commit crashed", x.commit(n), RefTransactions.ERR_CRASHED);
            Check.due("abort crashed", x.abort(n), RefTransactions.ERR_CRASHED);
            Check.due("run crashed", x.run(n, n), RefTransactions.ERR_CRASHED);
            Check.due("packStart() crashed", x.packStart(), RefTransactions.ERR_CRASHED);
            Check.due("packRun crashed", x.packRun(n), RefTransactions.ERR_CRASHED);
            Check.due("value crashed", x.value(n), RefTransactions.ERR_CRASHED);
            Check.due("status crashed", x.status(n), RefTransactions.ERR_CRASHED);
            Check.due("stepsDone crashed", x.stepsDone(n), RefTransactions.ERR_CRASHED);
            Check.due("updateCount crashed", x.updateCount(n), RefTransactions.ERR_CRASHED);
            Check.due("logCount() crashed", x.logCount(), RefTransactions.ERR_CRASHED);
            Check.due("logEntry crashed", x.logEntry(n, n), RefTransactions.ERR_CRASHED);
            Check.due("packProgress() crashed", x.packProgress(), RefTransactions.ERR_CRASHED);
        }
        RefTransactions y = Check.busyStore();
        y.crash();
        Check.same("refused calls changed nothing", Stores.future(x), Stores.future(y));
    }
}
