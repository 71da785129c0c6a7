/** Promise 7: packStart begins a pack when no pack and no transaction runs. */
public final class Promise07PackStartTest {
    public static void main(String[] args) {
        Check.start();
        startsAndChangesNothingElse();
        refusedDuringAPack();
        refusedBesideRunningSlots();
        refusedWhileCrashed();
        Check.end();
    }

    private static void startsAndChangesNothingElse() {
        RefTransactions x = new RefTransactions(8, 8, 4);
        Check.due("packStart() of a new store", x.packStart(), RefTransactions.OK);
        Check.due("packProgress()", x.packProgress(), 0);

        RefTransactions y = Check.busyStore();
        y.run(2, 10);
        y.abort(3);
        Check.open(y, 60, 5, 6);
        String before = Check.view(y);
        Check.due("packStart() beside OPEN, DONE and aborted slots", y.packStart(), RefTransactions.OK);
        Check.same("after packStart", Check.view(y), before.replace("pack 3", "pack 0"));
    }

    private static void refusedDuringAPack() {
        RefTransactions x = new RefTransactions(8, 8, 1);
        x.packStart();
        Check.refused("packStart() at 0", x, x::packStart, RefTransactions.ERR_BUSY);
        x.packRun(1);
        Check.refused("packStart() at 1", x, x::packStart, RefTransactions.ERR_BUSY);
        x.packRun(1);
        Check.refused("packStart() at 2", x, x::packStart, RefTransactions.ERR_BUSY);
        x.packRun(1);
        Check.due("packStart() after the pack", x.packStart(), RefTransactions.OK);
        Check.due("packProgress()", x.packProgress(), 0);
    }

    private static void refusedBesideRunningSlots() {
        for (int slot = 0; slot < 4; slot++) {
            RefTransactions x = new RefTransactions(8, 8, 4);
            for (int n = 0; n < 4; n++) {
                Check.open(x, 1, n);
            }
            x.commit(slot);
            for (int step = 0; step < 4; step++) {
                Check.refused("packStart() at step " + step, x, x::packStart, RefTransactions.ERR_BUSY);
                x.run(slot, 1);
            }
            Check.due("packStart() after the finish step", x.packStart(), RefTransactions.OK);
        }
    }

    private static void refusedWhileCrashed() {
        RefTransactions x = new RefTransactions(8, 8, 1);
        x.crash();
        Check.due("packStart() crashed", x.packStart(), RefTransactions.ERR_CRASHED);
        x.recover();
        Check.due("packProgress()", x.packProgress(), RefTransactions.PACK_STEPS);
    }
}
