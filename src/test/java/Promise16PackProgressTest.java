/** Promise 16: packProgress answers how far a pack is, or PACK_STEPS when there is none. */
public final class Promise16PackProgressTest {
    public static void main(String[] args) {
        Check.start();
        tellsEveryStep();
        tellsThatThereIsNoPack();
        refusedWhileCrashed();
        Check.end();
    }

    private static void tellsEveryStep() {
        RefTransactions x = new RefTransactions(4, 8, 1);
        for (int round = 0; round < 2; round++) {
            Check.due("packProgress() without a pack", x.packProgress(), 3);
            x.packStart();
            for (int n = 0; n < 3; n++) {
                Check.due("packProgress()", x.packProgress(), n);
                Check.due("packProgress() asked again", x.packProgress(), n);
                x.packRun(1);
            }
            Check.due("packProgress() after the pack", x.packProgress(), 3);
        }
    }

    /** "else PACK_STEPS": in every state without a pack. */
    private static void tellsThatThereIsNoPack() {
        for (int status : Stores.STATUSES) {
            RefTransactions x = Stores.slotIn(status);
            Check.due("packProgress() beside " + status, x.packProgress(), RefTransactions.PACK_STEPS);
        }
        RefTransactions y = Stores.slotIn(RefTransactions.LOCKING);
        y.packStart();
        Check.due("packProgress() after a refused packStart", y.packProgress(), RefTransactions.PACK_STEPS);
        y.packRun(1);
        Check.due("packProgress() after a refused packRun", y.packProgress(), RefTransactions.PACK_STEPS);
    }

    private static void refusedWhileCrashed() {
        for (int done = 0; done < RefTransactions.PACK_STEPS; done++) {
            RefTransactions x = Stores.packing(done);
            x.crash();
            Check.due("packProgress() crashed", x.packProgress(), RefTransactions.ERR_CRASHED);
            x.recover();
            Check.due("packProgress() recovered", x.packProgress(), 3);
        }
        RefTransactions y = new RefTransactions(4, 8, 1);
        y.crash();
        Check.due("packProgress() crashed without a pack", y.packProgress(), RefTransactions.ERR_CRASHED);
    }
}
