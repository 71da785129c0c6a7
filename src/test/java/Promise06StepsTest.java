/** Promise 6, the steps: what a lock, commit, apply and finish step change. */
public final class Promise06StepsTest {
    private static final int[] REFS = {5, 0, 7, 2};

    public static void main(String[] args) {
        Check.start();
        for (int updates = 1; updates <= RefTransactions.MAX_UPDATES; updates++) {
            stepByStep(updates);
            lockApplyAndFinishStepsOnlyCount(updates);
        }
        mismatches();
        matches();
        lockedComesBeforeMismatch();
        failureKeepsStepsAndGivesRefsBack();
        lockStepLooksAtTheValueOfItsTime();
        stepsChangeNoOtherSlot();
        commitStepIsAllAtOnce();
        logDropsItsOldest();
        commitStepOnALogAlmostFull();
        Check.end();
    }

    private static int[] firstRefs(int updates) {
        return java.util.Arrays.copyOf(REFS, updates);
    }

    /** The steps 1..2k+2 in their order, each with all that it changes. */
    private static void stepByStep(int updates) {
        RefTransactions x = new RefTransactions(8, 8, 2);
        int slot = Check.locking(x, 10, firstRefs(updates));
        String empty = Check.values(x);
        for (int step = 1; step <= 2 * updates + 2; step++) {
            Check.due("run(slot, 1) for step " + step, x.run(slot, 1), 1);
            int status = step <= updates ? RefTransactions.LOCKING
                : step <= 2 * updates + 1 ? RefTransactions.COMMITTED : RefTransactions.DONE;
            Check.same("after step " + step, Check.slot(x, slot), Check.slotText(slot, status, step, updates));
            Check.due("logCount() after step " + step, x.logCount(), step <= updates ? 0 : updates);
            if (step <= updates) {
                Check.same("values after step " + step, Check.values(x), empty);
            } else {
                for (int n = 0; n < updates; n++) {
                    Check.due("value after step " + step, x.value(REFS[n]), 10 + n);
                    Check.due("log ref", x.logEntry(n, RefTransactions.LOG_REF), REFS[n]);
                    Check.due("log old", x.logEntry(n, RefTransactions.LOG_OLD), 0);
                    Check.due("log new", x.logEntry(n, RefTransactions.LOG_NEW), 10 + n);
                }
            }
        }
        Check.refused("run of a DONE slot", x, () -> x.run(slot, 1), RefTransactions.ERR_STATE);
    }

    /** "Lock steps and apply steps change no value and no reflog entry"; the finish step changes its slot alone. */
    private static void lockApplyAndFinishStepsOnlyCount(int updates) {
        RefTransactions x = new RefTransactions(8, 8, 3);
        Check.done(x, 1, 0, 1, 2, 3);
        Check.done(x, 5, 4, 5, 6, 7);
        int slot = Check.locking(x, 90, firstRefs(updates));
        Check.open(x, 95, 1);
        for (int step = 1; step <= 2 * updates + 2; step++) {
            String before = Check.view(x);
            String own = Check.slot(x, slot);
            Check.due("run", x.run(slot, 1), 1);
            if (step != updates + 1) {
                Check.same("after step " + step + " of " + updates, Check.view(x),
                    before.replace(own, Check.slot(x, slot)));
            }
        }
    }

    /** Case (b), at the edges: a missing ref, a ref that exists, and values that differ by one. */
    private static void mismatches() {
        int[][] cases = {{0, 5}, {5, 0}, {5, 6}, {6, 5}, {Integer.MAX_VALUE, Integer.MAX_VALUE - 1}};
        for (int[] c : cases) {
            RefTransactions x = holding(c[0]);
            x.begin();
            x.add(0, 1, c[1], 77);
            x.commit(0);
            String before = Check.values(x) + Check.log(x);
            Check.due("run expecting " + c[1] + " of " + c[0], x.run(0, 10), 0);
            Check.same("the slot", Check.slot(x, 0), Check.slotText(0, RefTransactions.ABORTED_MISMATCH, 0, 1));
            Check.same("values and log", Check.values(x) + Check.log(x), before);
            Check.refused("run after a mismatch", x, () -> x.run(0, 1), RefTransactions.ERR_STATE);
        }
    }

    /** "Otherwise the slot now holds the ref": ANY of any value, 0 of a missing ref, v of v; any value is written. */
    private static void matches() {
        int[][] cases = {{0, 0}, {5, 5}, {0, RefTransactions.ANY}, {5, RefTransactions.ANY},
            {Integer.MAX_VALUE, Integer.MAX_VALUE}};
        for (int[] c : cases) {
            for (int written : new int[] {0, 5, 77, Integer.MAX_VALUE}) {
                RefTransactions x = holding(c[0]);
                int entries = x.logCount();
                x.begin();
                x.add(0, 1, c[1], written);
                x.commit(0);
                Check.due("run expecting " + c[1] + " of " + c[0], x.run(0, 10), 4);
                Check.due("value(1)", x.value(1), written);
                Check.due("logCount()", x.logCount(), entries + 1);
                Check.due("log old", x.logEntry(entries, RefTransactions.LOG_OLD), c[0]);
                Check.due("log new", x.logEntry(entries, RefTransactions.LOG_NEW), written);
            }
        }
    }

    private static RefTransactions holding(int value) {
        RefTransactions x = new RefTransactions(4, 8, 1);
        if (value > 0) {
            Check.done(x, value, 1);
        }
        return x;
    }

    /** "(a) if the update's ref is held by another slot ... (b) else if": a ref both held and mismatched is (a). */
    private static void lockedComesBeforeMismatch() {
        RefTransactions x = Check.busyStore();
        int slot = x.begin();
        x.add(slot, 2, 999, 1);
        x.commit(slot);
        Check.due("run", x.run(slot, 5), 0);
        Check.due("status", x.status(slot), RefTransactions.ABORTED_LOCKED);
    }

    /**
     * "In case (a) or (b) stepsDone is not increased, the slot holds no ref any more, and nothing else changes."
     */
    private static void failureKeepsStepsAndGivesRefsBack() {
        for (int before = 0; before < 4; before++) {
            RefTransactions x = new RefTransactions(8, 8, 2);
            int slot = x.begin();
            for (int n = 0; n < 4; n++) {
                x.add(slot, n, n == before ? 9 : 0, 1);
            }
            x.commit(slot);
            Check.due("run", x.run(slot, Integer.MAX_VALUE), before);
            Check.same("all", Check.view(x), "values 0 0 0 0 0 0 0 0"
                + Check.slotText(0, RefTransactions.ABORTED_MISMATCH, before, 4)
                + Check.slotText(1, RefTransactions.FREE, 0, 0) + " log pack 3");
            // Both wait, so that the second slot meets the first one's kept updates.
            RefTransactions y = new RefTransactions(8, 8, 3);
            Check.locking(y, 1, 0, 1, 2, 3);
            Check.locking(y, 5, 0, 1, 2, 3);
            Check.locking(y, 9, before);
            y.run(2, 1);
            Check.due("run into a lock", y.run(0, Integer.MAX_VALUE), before);
            Check.same("the slot", Check.slot(y, 0), Check.slotText(0, RefTransactions.ABORTED_LOCKED, before, 4));
            y.abort(2);
            Check.due("run over the refs given back", y.run(1, 20), 10);
        }
    }

    private static void lockStepLooksAtTheValueOfItsTime() {
        RefTransactions x = new RefTransactions(4, 8, 2);
        x.begin();
        x.add(0, 0, 0, 1);
        x.add(0, 1, 6, 2);
        x.commit(0);
        Check.due("run of the first lock step", x.run(0, 1), 1);
        Check.done(x, 6, 1);
        Check.due("run of the rest", x.run(0, 10), 5);
        Check.same("the values", Check.values(x), "values 1 2 0 0");
    }

    /** "Steps of one slot change no other slot's status, updates or stepsDone." */
    private static void stepsChangeNoOtherSlot() {
        for (int runs = 0; runs < 4; runs++) {
            RefTransactions x = new RefTransactions(16, 32, 4);
            for (int slot = 0; slot < 4; slot++) {
                Check.locking(x, 100 * slot, 4 * slot, 4 * slot + 1, 4 * slot + 2);
            }
            x.run((runs + 1) % 4, 2);
            x.run((runs + 2) % 4, 5);
            String before = Check.slots(x);
            String own = Check.slot(x, runs);
            for (int step = 1; step <= 8; step++) {
                Check.due("run", x.run(runs, 1), 1);
                Check.same("the other slots", Check.slots(x), before.replace(own, Check.slot(x, runs)));
            }
            for (int slot = 0; slot < 4; slot++) {
                x.run(slot, 10);
            }
            Check.same("every slot's own updates", Check.values(x),
                "values 0 1 2 0 100 101 102 0 200 201 202 0 300 301 302 0");
        }
    }

    /** "only the commit step changes values and the reflog", and it changes them for every update, in add order. */
    private static void commitStepIsAllAtOnce() {
        RefTransactions x = new RefTransactions(4, 8, 1);
        Check.done(x, 1, 0, 1, 2, 3);
        x.begin();
        x.add(0, 3, 4, 2);
        x.add(0, 2, 3, 0);
        x.add(0, 1, RefTransactions.ANY, 4);
        x.add(0, 0, 1, 1);
        x.commit(0);
        x.run(0, 4);
        Check.same("before the commit step", Check.values(x) + Check.log(x),
            "values 1 2 3 4 log (0 0 1) (1 0 2) (2 0 3) (3 0 4)");
        x.run(0, 1);
        Check.same("after the commit step", Check.values(x) + Check.log(x),
            "values 1 4 0 2 log (0 0 1) (1 0 2) (2 0 3) (3 0 4) (3 4 2) (2 3 0) (1 2 4) (0 1 1)");
        x.run(0, 10);
        Check.same("after the finish step", Check.values(x) + Check.log(x),
            "values 1 4 0 2 log (0 0 1) (1 0 2) (2 0 3) (3 0 4) (3 4 2) (2 3 0) (1 2 4) (0 1 1)");
    }

    private static void logDropsItsOldest() {
        RefTransactions x = new RefTransactions(4, 10, 1);
        Check.done(x, 10, 0, 1, 2, 3);
        Check.done(x, 20, 0, 1, 2, 3);
        Check.done(x, 30, 0, 1, 2, 3);
        Check.same("the log", Check.log(x), " log (2 0 12) (3 0 13) (0 10 20) (1 11 21) (2 12 22) (3 13 23)"
            + " (0 20 30) (1 21 31) (2 22 32) (3 23 33)");
        Check.done(x, 40, 3);
        Check.same("the log", Check.log(x), " log (3 0 13) (0 10 20) (1 11 21) (2 12 22) (3 13 23)"
            + " (0 20 30) (1 21 31) (2 22 32) (3 23 33) (3 33 40)");
    }

    /** "when the reflog already holds L entries, its oldest entry is removed first" - and not one entry sooner. */
    private static void commitStepOnALogAlmostFull() {
        for (int cap : new int[] {8, 9, 31, 32}) {
            for (int held = cap - 5; held <= cap; held++) {
                for (int updates = 1; updates <= RefTransactions.MAX_UPDATES; updates++) {
                    commitStepOnALogOf(cap, held, updates);
                }
            }
        }
    }

    private static void commitStepOnALogOf(int cap, int held, int updates) {
        RefTransactions x = new RefTransactions(8, cap, 1);
        for (int n = 0; n < held; n++) {
            Check.done(x, n, 6);
        }
        Check.locking(x, 50, firstRefs(updates));
        x.run(0, updates);
        String what = updates + " updates on " + held + " entries of " + cap;
        Check.due("logCount() before " + what, x.logCount(), held);
        Check.due("the commit step of " + what, x.run(0, 1), 1);
        int kept = Math.min(held, cap - updates);
        Check.due("logCount() after " + what, x.logCount(), kept + updates);
        for (int n = 0; n < kept; n++) {
            Check.due("an entry kept by " + what, x.logEntry(n, RefTransactions.LOG_NEW), held - kept + n);
        }
        for (int n = 0; n < updates; n++) {
            Check.due("an entry added by " + what, x.logEntry(kept + n, RefTransactions.LOG_REF), REFS[n]);
            Check.due("an entry added by " + what, x.logEntry(kept + n, RefTransactions.LOG_NEW), 50 + n);
        }
        Check.due("apply and finish steps of " + what, x.run(0, Integer.MAX_VALUE), updates + 1);
        Check.due("logCount() in the end", x.logCount(), kept + updates);
    }
}
