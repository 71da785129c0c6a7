/** Promise 10: recover opens a crashed store again, as crash left it. */
public final class Promise10RecoverTest {
    public static void main(String[] args) {
        Check.start();
        refusedUnlessCrashed();
        showsCommittedTransactionsWhole();
        keepsTheLogThatWasPushedOn();
        crashesAgainAndAgain();
        Check.end();
    }

    private static void refusedUnlessCrashed() {
        RefTransactions x = Check.busyStore();
        Check.refused("recover() of a store that runs", x, x::recover, RefTransactions.ERR_STATE);
        x.crash();
        Check.due("recover()", x.recover(), RefTransactions.OK);
        Check.refused("recover() a second time", x, x::recover, RefTransactions.ERR_STATE);
    }

    private static void showsCommittedTransactionsWhole() {
        RefTransactions x = new RefTransactions(8, 8, 3);
        Check.committed(x, 10, 0, 1, 2, 3);
        Check.locking(x, 20, 4, 5);
        x.run(1, 2);
        Check.open(x, 30, 6);
        x.crash();
        x.recover();
        Check.same("after recover", Check.view(x), "values 10 11 12 13 0 0 0 0"
            + Check.slotText(0, RefTransactions.DONE, 10, 4) + Check.slotText(1, RefTransactions.ABORTED_CRASH, 2, 2)
            + Check.slotText(2, RefTransactions.ABORTED_CRASH, 0, 1)
            + " log (0 0 10) (1 0 11) (2 0 12) (3 0 13) pack 3");
        Check.due("packProgress()", x.packProgress(), RefTransactions.PACK_STEPS);
        Check.due("packStart()", x.packStart(), RefTransactions.OK);
    }

    private static void keepsTheLogThatWasPushedOn() {
        RefTransactions x = new RefTransactions(16, 8, 3);
        Check.committed(x, 10, 0, 1, 2, 3);
        Check.committed(x, 20, 4, 5, 6);
        Check.done(x, 30, 7, 8, 9);
        String log = Check.log(x);
        Check.same("the log before", log, " log (2 0 12) (3 0 13) (4 0 20) (5 0 21) (6 0 22) (7 0 30) (8 0 31) (9 0 32)");
        x.crash();
        x.recover();
        Check.same("the log after", Check.log(x), log);
        Check.same("the values", Check.values(x), "values 10 11 12 13 20 21 22 30 31 32 0 0 0 0 0 0");
    }

    private static void crashesAgainAndAgain() {
        RefTransactions x = new RefTransactions(4, 8, 1);
        for (int n = 1; n <= 20; n++) {
            Check.committed(x, n, 1);
            Check.due("crash()", x.crash(), RefTransactions.OK);
            Check.due("crash() again", x.crash(), RefTransactions.ERR_CRASHED);
            Check.due("recover()", x.recover(), RefTransactions.OK);
            Check.due("recover() again", x.recover(), RefTransactions.ERR_STATE);
            Check.due("value(1)", x.value(1), n);
            Check.due("logCount()", x.logCount(), Math.min(n, 8));
        }
    }
}
