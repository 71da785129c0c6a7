/** Promise 8: packRun takes pack steps, and the last one ends the pack. */
public final class Promise08PackRunTest {
    public static void main(String[] args) {
        Check.start();
        for (int before = 0; before < RefTransactions.PACK_STEPS; before++) {
            for (int count : new int[] {1, 2, 3, 4, 100, Integer.MAX_VALUE - 1, Integer.MAX_VALUE}) {
                takes(before, count);
            }
        }
        countBelowOne();
        noPackInProgress();
        countComesBeforeState();
        leavesTheRestAlone();
        refusedWhileCrashed();
        Check.end();
    }

    /** "the number of steps taken (1..PACK_STEPS), which is min(count, PACK_STEPS - p)"; "Any large count is accepted." */
    private static void takes(int before, int count) {
        RefTransactions x = new RefTransactions(4, 8, 1);
        x.packStart();
        if (before > 0) {
            Check.due("packRun(" + before + ")", x.packRun(before), before);
        }
        int due = Math.min(count, RefTransactions.PACK_STEPS - before);
        Check.due("packRun(" + count + ") at " + before, x.packRun(count), due);
        Check.due("packProgress()", x.packProgress(), before + due);
        boolean ended = before + due == RefTransactions.PACK_STEPS;
        Check.due("packStart() then", x.packStart(), ended ? RefTransactions.OK : RefTransactions.ERR_BUSY);
    }

    /** "count < 1 -> ERR_COUNT" */
    private static void countBelowOne() {
        for (int done = 0; done < RefTransactions.PACK_STEPS; done++) {
            RefTransactions x = Stores.packing(done);
            for (int wrong : new int[] {Integer.MIN_VALUE, Integer.MIN_VALUE + 1, -2, -1, 0}) {
                Check.refused("packRun(" + wrong + ") at " + done, x, () -> x.packRun(wrong), RefTransactions.ERR_COUNT);
            }
            Check.due("packRun(1) at " + done, x.packRun(1), 1);
        }
    }

    /** "no pack in progress -> ERR_STATE": never started, ended by its last step, ended by a crash. */
    private static void noPackInProgress() {
        RefTransactions x = new RefTransactions(4, 8, 1);
        for (int round = 0; round < 3; round++) {
            for (int count : new int[] {1, 3, Integer.MAX_VALUE}) {
                Check.refused("packRun(" + count + ") without a pack", x, () -> x.packRun(count),
                    RefTransactions.ERR_STATE);
            }
            x.packStart();
            x.packRun(1 + round);
            if (round < 2) {
                x.packRun(2 - round);
            }
        }
        Check.refused("packRun(1) after the pack", x, () -> x.packRun(1), RefTransactions.ERR_STATE);
        x.packStart();
        x.crash();
        x.recover();
        Check.refused("packRun(1) after the crash", x, () -> x.packRun(1), RefTransactions.ERR_STATE);
        for (int status : Stores.STATUSES) {
            RefTransactions y = Stores.slotIn(status);
            Check.refused("packRun(1) beside " + status, y, () -> y.packRun(1), RefTransactions.ERR_STATE);
        }
    }

    private static void countComesBeforeState() {
        RefTransactions x = new RefTransactions(4, 8, 1);
        for (int wrong : new int[] {Integer.MIN_VALUE, -1, 0}) {
            Check.refused("packRun(" + wrong + ") without a pack", x, () -> x.packRun(wrong), RefTransactions.ERR_COUNT);
        }
    }

    /** "Values, the reflog and every slot stay unchanged." */
    private static void leavesTheRestAlone() {
        RefTransactions x = Check.busyStore();
        x.run(2, 10);
        x.abort(3);
        int slot = Check.open(x, 60, 5, 6);
        x.packStart();
        x.commit(slot);
        String before = Check.view(x);
        Check.due("packRun(1)", x.packRun(1), 1);
        Check.same("after packRun(1)", Check.view(x), before.replace("pack 0", "pack 1"));
        Check.due("packRun(9)", x.packRun(9), 2);
        Check.same("after packRun(9)", Check.view(x), before.replace("pack 0", "pack 3"));
        Check.due("run after the pack", x.run(slot, 10), 6);
    }

    private static void refusedWhileCrashed() {
        RefTransactions x = new RefTransactions(4, 8, 1);
        x.packStart();
        x.crash();
        Check.due("packRun(1) crashed", x.packRun(1), RefTransactions.ERR_CRASHED);
        Check.due("packRun(0) crashed", x.packRun(0), RefTransactions.ERR_CRASHED);
        x.recover();
        Check.due("packRun(1) after", x.packRun(1), RefTransactions.ERR_STATE);
    }
}
