/** Promise 3: add appends an update to an OPEN slot and looks at nothing else. */
public final class Promise03AddTest {
    private static final int LOW = Integer.MIN_VALUE;
    private static final int HIGH = Integer.MAX_VALUE;

    public static void main(String[] args) {
        Check.start();
        appends();
        acceptsTheEdges();
        refusesInOrder();
        refusesOutsideOpen();
        takesNoLockAndLooksAtNoValue();
        keepsTheOtherSlotsUpdates();
        worksDuringAPack();
        refusedWhileCrashed();
        Check.end();
    }

    private static void appends() {
        RefTransactions x = Check.busyStore();
        int slot = x.begin();
        String before = Check.view(x);
        for (int n = 1; n <= RefTransactions.MAX_UPDATES; n++) {
            Check.due("add", x.add(slot, 8 - n, RefTransactions.ANY, n), RefTransactions.OK);
            Check.same("after add " + n, Check.view(x), before.replace(
                Check.slotText(slot, RefTransactions.OPEN, 0, 0), Check.slotText(slot, RefTransactions.OPEN, 0, n)));
        }
        x.run(2, 10);
        x.abort(3);
        x.commit(slot);
        Check.due("run", x.run(slot, 10), 10);
        Check.same("the log in add order", Check.log(x), " log (2 0 30) (0 0 10) (1 0 11) (7 0 1) (6 0 2) (5 0 3) (4 0 4)");
    }

    private static void acceptsTheEdges() {
        RefTransactions x = new RefTransactions(16, 8, 4);
        x.begin();
        x.begin();
        x.begin();
        x.begin();
        Check.due("add ANY", x.add(3, 0, RefTransactions.ANY, HIGH), RefTransactions.OK);
        Check.due("add expected 0", x.add(3, 15, 0, HIGH - 1), RefTransactions.OK);
        Check.due("add newValue 0", x.add(3, 1, RefTransactions.ANY, 0), RefTransactions.OK);
        Check.due("add greatest expected", x.add(0, 15, HIGH, 1), RefTransactions.OK);
        Check.due("add greatest expected", x.add(1, 0, HIGH, 2), RefTransactions.OK);
        x.commit(3);
        Check.due("run", x.run(3, HIGH), 8);
        Check.due("value(0)", x.value(0), HIGH);
        Check.due("value(15)", x.value(15), HIGH - 1);
        x.commit(0);
        Check.due("run of a near miss", x.run(0, 1), 0);
        Check.due("status of a near miss", x.status(0), RefTransactions.ABORTED_MISMATCH);
        x.commit(1);
        Check.due("run of a match", x.run(1, HIGH), 4);
        Check.due("value(0)", x.value(0), 2);
    }

    private static void refusesInOrder() {
        RefTransactions x = new RefTransactions(5, 8, 2);
        int slot = x.begin();
        for (int wrong : new int[] {LOW, -1, 2, 4, HIGH}) {
            Check.refused("add(" + wrong + ")", x, () -> x.add(wrong, 9, -2, -1), RefTransactions.ERR_SLOT);
        }
        Check.refused("add to a FREE slot", x, () -> x.add(1, 9, -2, -1), RefTransactions.ERR_STATE);
        for (int wrong : new int[] {LOW, -1, 5, 16, HIGH}) {
            Check.refused("add of ref " + wrong, x, () -> x.add(slot, wrong, -2, -1), RefTransactions.ERR_REF);
            Check.refused("add of ref " + wrong, x, () -> x.add(slot, wrong, 0, 1), RefTransactions.ERR_REF);
        }
        for (int wrong : new int[] {LOW, -2}) {
            Check.refused("add expecting " + wrong, x, () -> x.add(slot, 0, wrong, 1), RefTransactions.ERR_VALUE);
        }
        for (int wrong : new int[] {LOW, -2, -1}) {
            Check.refused("add of value " + wrong, x, () -> x.add(slot, 0, -1, wrong), RefTransactions.ERR_VALUE);
        }
        Check.due("add", x.add(slot, 0, 0, 1), RefTransactions.OK);
        Check.refused("add of a ref twice", x, () -> x.add(slot, 0, 0, 1), RefTransactions.ERR_DUP);
        Check.due("add", x.add(slot, 1, 0, 1), RefTransactions.OK);
        Check.due("add", x.add(slot, 2, 0, 1), RefTransactions.OK);
        Check.refused("add of the first ref", x, () -> x.add(slot, 0, 5, 6), RefTransactions.ERR_DUP);
        Check.refused("add of the middle ref", x, () -> x.add(slot, 1, 5, 6), RefTransactions.ERR_DUP);
        Check.refused("add of the last ref", x, () -> x.add(slot, 2, 5, 6), RefTransactions.ERR_DUP);
        Check.due("add", x.add(slot, 3, 0, 1), RefTransactions.OK);
        Check.refused("add of a fifth", x, () -> x.add(slot, 4, 0, 1), RefTransactions.ERR_FULL);
        Check.refused("add of a fifth, named", x, () -> x.add(slot, 0, 0, 1), RefTransactions.ERR_FULL);
        Check.refused("add of a fifth, wrong value", x, () -> x.add(slot, 4, 0, -1), RefTransactions.ERR_VALUE);
        Check.refused("add of a fifth, wrong expected", x, () -> x.add(slot, 4, -2, 1), RefTransactions.ERR_VALUE);
        Check.refused("add of a fifth, wrong ref", x, () -> x.add(slot, 5, 0, 1), RefTransactions.ERR_REF);
        x.commit(slot);
        Check.due("run", x.run(slot, 10), 10);
        Check.same("only the accepted updates", Check.log(x), " log (0 0 1) (1 0 1) (2 0 1) (3 0 1)");
    }

    private static void refusesOutsideOpen() {
        RefTransactions x = Check.busyStore();
        for (int slot = 0; slot < 4; slot++) {
            int tried = slot;
            Check.refused("add to status " + x.status(slot), x, () -> x.add(tried, 7, 0, 1), RefTransactions.ERR_STATE);
            Check.refused("add to status " + x.status(slot), x, () -> x.add(tried, 8, -2, -1), RefTransactions.ERR_STATE);
        }
    }

    private static void takesNoLockAndLooksAtNoValue() {
        RefTransactions x = Check.busyStore();
        int slot = x.begin();
        Check.due("add of a held ref", x.add(slot, 2, RefTransactions.ANY, 1), RefTransactions.OK);
        Check.due("add of a mismatch", x.add(slot, 0, 999, 1), RefTransactions.OK);
        Check.due("add of a ref that another will lock", x.add(slot, 4, 0, 1), RefTransactions.OK);
        Check.due("run of the other slot", x.run(3, 1), 1);
    }

    private static void keepsTheOtherSlotsUpdates() {
        RefTransactions x = new RefTransactions(16, 32, 4);
        for (int slot = 0; slot < 4; slot++) {
            x.begin();
        }
        for (int n = 0; n < 4; n++) {
            for (int slot = 3; slot >= 0; slot--) {
                x.add(slot, 4 * slot + n, 0, 100 * slot + n + 1);
            }
        }
        for (int slot = 0; slot < 4; slot++) {
            x.commit(slot);
            Check.due("run", x.run(slot, 10), 10);
        }
        Check.same("every slot's own updates", Check.values(x),
            "values 1 2 3 4 101 102 103 104 201 202 203 204 301 302 303 304");
    }

    private static void worksDuringAPack() {
        RefTransactions x = new RefTransactions(4, 8, 1);
        x.begin();
        x.packStart();
        Check.due("add in a pack", x.add(0, 1, 0, 1), RefTransactions.OK);
        Check.due("packProgress()", x.packProgress(), 0);
        Check.due("updateCount(0)", x.updateCount(0), 1);
    }

    private static void refusedWhileCrashed() {
        RefTransactions x = new RefTransactions(4, 8, 1);
        Check.open(x, 1, 2);
        x.crash();
        Check.due("add crashed", x.add(0, 1, 0, 1), RefTransactions.ERR_CRASHED);
        Check.due("add crashed", x.add(-1, 9, -2, -1), RefTransactions.ERR_CRASHED);
        x.recover();
        Check.due("updateCount(0)", x.updateCount(0), 1);
    }
}
