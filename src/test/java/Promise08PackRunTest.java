/** Promise 8: packRun takes pack steps, and the last one ends the pack. */
public final class Promise08PackRunTest {
    public static void main(String[] args) {
        Check.start();
        for (int before = 0; before < RefTransactions.PACK_STEPS; before++) {
            for (int count : new int[] {1, 2, 3, 4, 100, Integer.MAX_VALUE}) {
                takes(before, count);
            }
        }
        refusesInOrder();
        leavesTheRestAlone();
        refusedWhileCrashed();
        Check.end();
    }

    private static void takes(int before, int count) {
        RefTransactions x = new RefTransactions(4, 8, 1);
        x.packStart();
        if (before > 0) {
            Check.due("packRun(" + before + ")", x.packRun(before), before);
        }
        int due = Math.min(count, RefTransactions.PACK_STEPS - before);
        Check.due("packRun(" + count + ") at " + before, x.packRun(count), due);
        Check.due("packProgress()", x.packProgress(), before + due);
        boolean ended = before + due == RefTransactions.PACK_STEPS;
        Check.due("packStart() then", x.packStart(), ended ? RefTransactions.OK : RefTransactions.ERR_BUSY);
    }

    private static void refusesInOrder() {
        RefTransactions x = new RefTransactions(4, 8, 1);
        for (int wrong : new int[] {Integer.MIN_VALUE, -1, 0}) {
            Check.refused("packRun(" + wrong + ") without a pack", x, () -> x.packRun(wrong), RefTransactions.ERR_COUNT);
        }
        Check.refused("packRun(1) without a pack", x, () -> x.packRun(1), RefTransactions.ERR_STATE);
        x.packStart();
        for (int wrong : new int[] {Integer.MIN_VALUE, -1, 0}) {
            Check.refused("packRun(" + wrong + ")", x, () -> x.packRun(wrong), RefTransactions.ERR_COUNT);
        }
        x.packRun(3);
        Check.refused("packRun(1) after the pack", x, () -> x.packRun(1), RefTransactions.ERR_STATE);
    }

    private static void leavesTheRestAlone() {
        RefTransactions x = Check.busyStore();
        x.run(2, 10);
        x.abort(3);
        int slot = Check.open(x, 60, 5, 6);
        x.packStart();
        x.commit(slot);
        String before = Check.view(x);
        Check.due("packRun(1)", x.packRun(1), 1);
        Check.same("after packRun(1)", Check.view(x), before.replace("pack 0", "pack 1"));
        Check.due("packRun(9)", x.packRun(9), 2);
        Check.same("after packRun(9)", Check.view(x), before.replace("pack 0", "pack 3"));
        Check.due("run after the pack", x.run(slot, 10), 6);
    }

    private static void refusedWhileCrashed() {
        RefTransactions x = new RefTransactions(4, 8, 1);
        x.packStart();
        x.crash();
        Check.due("packRun(1) crashed", x.packRun(1), RefTransactions.ERR_CRASHED);
        Check.due("packRun(0) crashed", x.packRun(0), RefTransactions.ERR_CRASHED);
        x.recover();
        Check.due("packRun(1) after", x.packRun(1), RefTransactions.ERR_STATE);
    }
}
