/** Promise 6: run takes the steps of a transaction one after another. */
public final class Promise06RunTest {
    private static final int[] REFS = {5, 0, 7, 2};

    public static void main(String[] args) {
        Check.start();
        for (int updates = 1; updates <= RefTransactions.MAX_UPDATES; updates++) {
            stepByStep(updates);
            anyCount(updates);
        }
        refusesInOrder();
        mismatches();
        matches();
        lockedComesBeforeMismatch();
        holdersBlock();
        endedSlotsDoNotBlock();
        failureKeepsStepsAndGivesRefsBack();
        lockStepLooksAtTheValueOfItsTime();
        commitStepIsAllAtOnce();
        logDropsItsOldest();
        refusedInAPack();
        refusedWhileCrashed();
        Check.end();
    }

    private static int[] firstRefs(int updates) {
        return java.util.Arrays.copyOf(REFS, updates);
    }

    private static void stepByStep(int updates) {
        RefTransactions x = new RefTransactions(8, 8, 2);
        int slot = Check.locking(x, 10, firstRefs(updates));
        String empty = Check.values(x);
        for (int step = 1; step <= 2 * updates + 2; step++) {
            Check.due("run(slot, 1) for step " + step, x.run(slot, 1), 1);
            int status = step <= updates ? RefTransactions.LOCKING
                : step <= 2 * updates + 1 ? RefTransactions.COMMITTED : RefTransactions.DONE;
            Check.same("after step " + step, Check.slot(x, slot), Check.slotText(slot, status, step, updates));
            Check.due("logCount() after step " + step, x.logCount(), step <= updates ? 0 : updates);
            if (step <= updates) {
                Check.same("values after step " + step, Check.values(x), empty);
            } else {
                for (int n = 0; n < updates; n++) {
                    Check.due("value after step " + step, x.value(REFS[n]), 10 + n);
                    Check.due("log ref", x.logEntry(n, RefTransactions.LOG_REF), REFS[n]);
                    Check.due("log old", x.logEntry(n, RefTransactions.LOG_OLD), 0);
                    Check.due("log new", x.logEntry(n, RefTransactions.LOG_NEW), 10 + n);
                }
            }
        }
        Check.refused("run of a DONE slot", x, () -> x.run(slot, 1), RefTransactions.ERR_STATE);
    }

    private static void anyCount(int updates) {
        int all = 2 * updates + 2;
        for (int first = 1; first <= all; first++) {
            for (int count : new int[] {1, 2, all - 1, all, all + 1, Integer.MAX_VALUE}) {
                RefTransactions x = new RefTransactions(8, 8, 1);
                Check.locking(x, 10, firstRefs(updates));
                Check.due("run(0, " + first + ")", x.run(0, first), first);
                int left = all - first;
                int due = left == 0 ? RefTransactions.ERR_STATE : Math.min(count, left);
                Check.due("run(0, " + count + ") after " + first, x.run(0, count), due);
                Check.due("stepsDone(0)", x.stepsDone(0), first + Math.max(due, 0));
            }
        }
    }

    private static void refusesInOrder() {
        RefTransactions x = Check.busyStore();
        for (int wrong : new int[] {Integer.MIN_VALUE, -1, 4, Integer.MAX_VALUE}) {
            Check.refused("run(" + wrong + ", 0)", x, () -> x.run(wrong, 0), RefTransactions.ERR_SLOT);
            Check.refused("run(" + wrong + ", 1)", x, () -> x.run(wrong, 1), RefTransactions.ERR_SLOT);
        }
        for (int slot = 0; slot < 4; slot++) {
            int tried = slot;
            for (int wrong : new int[] {Integer.MIN_VALUE, -1, 0}) {
                Check.refused("run(" + slot + ", " + wrong + ")", x, () -> x.run(tried, wrong), RefTransactions.ERR_COUNT);
            }
        }
        Check.refused("run of a DONE slot", x, () -> x.run(0, 1), RefTransactions.ERR_STATE);
        Check.refused("run of an ABORTED_USER slot", x, () -> x.run(1, 1), RefTransactions.ERR_STATE);
        RefTransactions y = new RefTransactions(4, 8, 3);
        Check.refused("run of a FREE slot", y, () -> y.run(0, 1), RefTransactions.ERR_STATE);
        Check.refused("run of a slot past S", y, () -> y.run(3, 1), RefTransactions.ERR_SLOT);
        Check.open(y, 1, 0);
        Check.refused("run of an OPEN slot", y, () -> y.run(0, 1), RefTransactions.ERR_STATE);
    }

    private static void mismatches() {
        int[][] cases = {{0, 5}, {5, 0}, {5, 6}, {6, 5}, {Integer.MAX_VALUE, Integer.MAX_VALUE - 1}};
        for (int[] c : cases) {
            RefTransactions x = holding(c[0]);
            x.begin();
            x.add(0, 1, c[1], 77);
            x.commit(0);
            String before = Check.values(x) + Check.log(x);
            Check.due("run expecting " + c[1] + " of " + c[0], x.run(0, 10), 0);
            Check.same("the slot", Check.slot(x, 0), Check.slotText(0, RefTransactions.ABORTED_MISMATCH, 0, 1));
            Check.same("values and log", Check.values(x) + Check.log(x), before);
            Check.refused("run after a mismatch", x, () -> x.run(0, 1), RefTransactions.ERR_STATE);
        }
    }

    private static void matches() {
        int[][] cases = {{0, 0}, {5, 5}, {0, RefTransactions.ANY}, {5, RefTransactions.ANY},
            {Integer.MAX_VALUE, Integer.MAX_VALUE}};
        for (int[] c : cases) {
            for (int written : new int[] {0, 5, 77, Integer.MAX_VALUE}) {
                RefTransactions x = holding(c[0]);
                int entries = x.logCount();
                x.begin();
                x.add(0, 1, c[1], written);
                x.commit(0);
                Check.due("run expecting " + c[1] + " of " + c[0], x.run(0, 10), 4);
                Check.due("value(1)", x.value(1), written);
                Check.due("logCount()", x.logCount(), entries + 1);
                Check.due("log old", x.logEntry(entries, RefTransactions.LOG_OLD), c[0]);
                Check.due("log new", x.logEntry(entries, RefTransactions.LOG_NEW), written);
            }
        }
    }

    private static RefTransactions holding(int value) {
        RefTransactions x = new RefTransactions(4, 8, 1);
        if (value > 0) {
            Check.done(x, value, 1);
        }
        return x;
    }

    private static void lockedComesBeforeMismatch() {
        RefTransactions x = Check.busyStore();
        int slot = x.begin();
        x.add(slot, 2, 999, 1);
        x.commit(slot);
        Check.due("run", x.run(slot, 5), 0);
        Check.due("status", x.status(slot), RefTransactions.ABORTED_LOCKED);
    }

    /** A LOCKING slot holds what it locked so far, a COMMITTED one all its refs until its finish step. */
    private static void holdersBlock() {
        int[] refs = {3, 1, 6};
        for (int steps = 0; steps <= 8; steps++) {
            for (int n = 0; n < refs.length; n++) {
                for (int order = 0; order < 2; order++) {
                    RefTransactions x = new RefTransactions(8, 8, 2);
                    int holder = 0;
                    if (order == 0) {
                        Check.locking(x, 10, refs);
                        Check.locking(x, 50, refs[n]);
                    } else {
                        Check.locking(x, 50, refs[n]);
                        holder = Check.locking(x, 10, refs);
                    }
                    if (steps > 0) {
                        x.run(holder, steps);
                    }
                    boolean held = steps > n && steps < 8;
                    Check.due("run on ref " + n + " held at step " + steps, x.run(1 - holder, 1), held ? 0 : 1);
                    Check.due("status", x.status(1 - holder),
                        held ? RefTransactions.ABORTED_LOCKED : RefTransactions.LOCKING);
                }
            }
        }
    }

    private static void endedSlotsDoNotBlock() {
        RefTransactions x = new RefTransactions(8, 8, 4);
        Check.locking(x, 10, 0, 1);
        x.run(0, 2);
        Check.locking(x, 20, 2, 0);
        Check.due("run into a held ref", x.run(1, 5), 1);
        Check.due("status", x.status(1), RefTransactions.ABORTED_LOCKED);
        x.begin();
        x.begin();
        Check.due("the reopened slot is 1, so status 5 is gone", x.status(1), RefTransactions.OPEN);
        x.add(2, 2, 0, 30);
        x.add(2, 3, 9, 31);
        x.commit(2);
        Check.due("run into a mismatch", x.run(2, 5), 1);
        Check.due("status", x.status(2), RefTransactions.ABORTED_MISMATCH);
        x.add(1, 2, 0, 40);
        x.commit(1);
        Check.due("run over a ref both had locked", x.run(1, 5), 4);
        Check.due("value(2)", x.value(2), 40);
    }

    private static void failureKeepsStepsAndGivesRefsBack() {
        for (int before = 0; before < 4; before++) {
            RefTransactions x = new RefTransactions(8, 8, 2);
            int slot = x.begin();
            for (int n = 0; n < 4; n++) {
                x.add(slot, n, n == before ? 9 : 0, 1);
            }
            x.commit(slot);
            Check.due("run", x.run(slot, Integer.MAX_VALUE), before);
            Check.same("all", Check.view(x), "values 0 0 0 0 0 0 0 0"
                + Check.slotText(0, RefTransactions.ABORTED_MISMATCH, before, 4)
                + Check.slotText(1, RefTransactions.FREE, 0, 0) + " log pack 3");
            x.begin();
            int other = Check.locking(x, 5, 0, 1, 2, 3);
            Check.due("run over the refs given back", x.run(other, 20), 10);
        }
    }

    private static void lockStepLooksAtTheValueOfItsTime() {
        RefTransactions x = new RefTransactions(4, 8, 2);
        x.begin();
        x.add(0, 0, 0, 1);
        x.add(0, 1, 6, 2);
        x.commit(0);
        Check.due("run of the first lock step", x.run(0, 1), 1);
        Check.done(x, 6, 1);
        Check.due("run of the rest", x.run(0, 10), 5);
        Check.same("the values", Check.values(x), "values 1 2 0 0");
    }

    private static void commitStepIsAllAtOnce() {
        RefTransactions x = new RefTransactions(4, 8, 1);
        Check.done(x, 1, 0, 1, 2, 3);
        x.begin();
        x.add(0, 3, 4, 2);
        x.add(0, 2, 3, 0);
        x.add(0, 1, RefTransactions.ANY, 4);
        x.add(0, 0, 1, 1);
        x.commit(0);
        x.run(0, 4);
        Check.same("before the commit step", Check.values(x) + Check.log(x),
            "values 1 2 3 4 log (0 0 1) (1 0 2) (2 0 3) (3 0 4)");
        x.run(0, 1);
        Check.same("after the commit step", Check.values(x) + Check.log(x),
            "values 1 4 0 2 log (0 0 1) (1 0 2) (2 0 3) (3 0 4) (3 4 2) (2 3 0) (1 2 4) (0 1 1)");
        x.run(0, 10);
        Check.same("after the finish step", Check.values(x) + Check.log(x),
            "values 1 4 0 2 log (0 0 1) (1 0 2) (2 0 3) (3 0 4) (3 4 2) (2 3 0) (1 2 4) (0 1 1)");
    }

    private static void logDropsItsOldest() {
        RefTransactions x = new RefTransactions(4, 10, 1);
        Check.done(x, 10, 0, 1, 2, 3);
        Check.done(x, 20, 0, 1, 2, 3);
        Check.done(x, 30, 0, 1, 2, 3);
        Check.same("the log", Check.log(x), " log (2 0 12) (3 0 13) (0 10 20) (1 11 21) (2 12 22) (3 13 23)"
            + " (0 20 30) (1 21 31) (2 22 32) (3 23 33)");
        Check.done(x, 40, 3);
        Check.same("the log", Check.log(x), " log (3 0 13) (0 10 20) (1 11 21) (2 12 22) (3 13 23)"
            + " (0 20 30) (1 21 31) (2 22 32) (3 23 33) (3 33 40)");
    }

    private static void refusedInAPack() {
        RefTransactions x = new RefTransactions(4, 8, 2);
        Check.open(x, 1, 0);
        x.packStart();
        Check.refused("run of an OPEN slot in a pack", x, () -> x.run(0, 1), RefTransactions.ERR_STATE);
        x.commit(0);
        for (int n = 0; n < RefTransactions.PACK_STEPS; n++) {
            Check.refused("run in a pack", x, () -> x.run(0, 1), RefTransactions.ERR_BUSY);
            Check.refused("run in a pack, wrong count", x, () -> x.run(0, 0), RefTransactions.ERR_COUNT);
            Check.refused("run in a pack, wrong slot", x, () -> x.run(2, 1), RefTransactions.ERR_SLOT);
            Check.refused("run in a pack, FREE slot", x, () -> x.run(1, 1), RefTransactions.ERR_STATE);
            x.packRun(1);
        }
        Check.due("run after the pack", x.run(0, 10), 4);
    }

    private static void refusedWhileCrashed() {
        RefTransactions x = new RefTransactions(4, 8, 1);
        Check.locking(x, 1, 0);
        x.crash();
        Check.due("run crashed", x.run(0, 1), RefTransactions.ERR_CRASHED);
        Check.due("run crashed", x.run(-1, 0), RefTransactions.ERR_CRASHED);
        x.recover();
        Check.same("the slot", Check.slot(x, 0), Check.slotText(0, RefTransactions.ABORTED_CRASH, 0, 1));
    }
}
