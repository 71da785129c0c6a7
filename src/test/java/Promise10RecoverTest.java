/** Promise 10: recover opens a crashed store again, as crash left it. */
public final class Promise10RecoverTest {
    public static void main(String[] args) {
        Check.start();
        refusedUnlessCrashed();
        refusedInEveryState();
        nothingRunsAfterwards();
        uncommittedShowNoEffect();
        showsCommittedTransactionsWhole();
        keepsTheLogThatWasPushedOn();
        crashesAgainAndAgain();
        Check.end();
    }

    private static void refusedUnlessCrashed() {
        RefTransactions x = Check.busyStore();
        Check.refused("recover() of a store that runs", x, x::recover, RefTransactions.ERR_STATE);
        x.crash();
        Check.due("recover()", x.recover(), RefTransactions.OK);
        Check.refused("recover() a second time", x, x::recover, RefTransactions.ERR_STATE);
    }

    private static void refusedInEveryState() {
        Stores.all().forEach((state, maker) -> {
            RefTransactions x = maker.get();
            Check.refused("recover() with " + state, x, x::recover, RefTransactions.ERR_STATE);
        });
    }

    /** "right after recover(), no slot is LOCKING or COMMITTED, no pack is in progress" */
    private static void nothingRunsAfterwards() {
        Stores.all().forEach((state, maker) -> {
            RefTransactions x = maker.get();
            Check.due("crash() with " + state, x.crash(), RefTransactions.OK);
            Check.due("recover() with " + state, x.recover(), RefTransactions.OK);
            for (int slot = 0; x.status(slot) >= 0; slot++) {
                int tried = slot;
                Check.refused("run with " + state, x, () -> x.run(tried, 1), RefTransactions.ERR_STATE);
                Check.refused("abort with " + state, x, () -> x.abort(tried), RefTransactions.ERR_STATE);
            }
            Check.due("packProgress() with " + state, x.packProgress(), RefTransactions.PACK_STEPS);
            Check.refused("packRun(1) with " + state, x, () -> x.packRun(1), RefTransactions.ERR_STATE);
            Check.due("begin() with " + state, x.begin(), 0);
            Check.due("packStart() with " + state, x.packStart(), RefTransactions.OK);
        });
    }

    /** "A transaction that had not completed its commit step shows no effect": up to the very step before it. */
    private static void uncommittedShowNoEffect() {
        for (int updates = 1; updates <= RefTransactions.MAX_UPDATES; updates++) {
            RefTransactions x = new RefTransactions(8, 8, 1);
            Check.done(x, 5, 3, 2);
            String before = Check.values(x) + Check.log(x);
            Check.locking(x, 10, java.util.Arrays.copyOf(new int[] {0, 1, 2, 3}, updates));
            x.run(0, updates);
            x.crash();
            x.recover();
            Check.same("values and log", Check.values(x) + Check.log(x), before);
            Check.same("the slot", Check.slot(x, 0),
                Check.slotText(0, RefTransactions.ABORTED_CRASH, updates, updates));
        }
    }

    private static void showsCommittedTransactionsWhole() {
        RefTransactions x = new RefTransactions(8, 8, 3);
        Check.committed(x, 10, 0, 1, 2, 3);
        Check.locking(x, 20, 4, 5);
        x.run(1, 2);
        Check.open(x, 30, 6);
        x.crash();
        x.recover();
        Check.same("after recover", Check.view(x), "values 10 11 12 13 0 0 0 0"
            + Check.slotText(0, RefTransactions.DONE, 10, 4) + Check.slotText(1, RefTransactions.ABORTED_CRASH, 2, 2)
            + Check.slotText(2, RefTransactions.ABORTED_CRASH, 0, 1)
            + " log (0 0 10) (1 0 11) (2 0 12) (3 0 13) pack 3");
        Check.due("packProgress()", x.packProgress(), RefTransactions.PACK_STEPS);
        Check.due("packStart()", x.packStart(), RefTransactions.OK);
    }

    /** "its entries are there unless later commit steps had already pushed them out" */
    private static void keepsTheLogThatWasPushedOn() {
        RefTransactions x = new RefTransactions(16, 8, 3);
        Check.committed(x, 10, 0, 1, 2, 3);
        Check.committed(x, 20, 4, 5, 6);
        Check.done(x, 30, 7, 8, 9);
        String log = Check.log(x);
        Check.same("the log before", log, " log (2 0 12) (3 0 13) (4 0 20) (5 0 21) (6 0 22) (7 0 30) (8 0 31) (9 0 32)");
        x.crash();
        x.recover();
        Check.same("the log after", Check.log(x), log);
        Check.same("the values", Check.values(x), "values 10 11 12 13 20 21 22 30 31 32 0 0 0 0 0 0");
    }

    private static void crashesAgainAndAgain() {
        RefTransactions x = new RefTransactions(4, 8, 1);
        for (int n = 1; n <= 20; n++) {
            Check.committed(x, n, 1);
            Check.due("crash()", x.crash(), RefTransactions.OK);
            Check.due("crash() again", x.crash(), RefTransactions.ERR_CRASHED);
            Check.due("recover()", x.recover(), RefTransactions.OK);
            Check.due("recover() again", x.recover(), RefTransactions.ERR_STATE);
            Check.due("value(1)", x.value(1), n);
            Check.due("logCount()", x.logCount(), Math.min(n, 8));
        }
    }
}
