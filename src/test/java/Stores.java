import java.util.LinkedHashMap;
import java.util.Map;
import java.util.function.Supplier;

/** Stores brought into the states that the document tells apart, and what is due of them later. */
final class Stores {
    static final int[] STATUSES = {RefTransactions.FREE, RefTransactions.OPEN, RefTransactions.LOCKING,
        RefTransactions.COMMITTED, RefTransactions.DONE, RefTransactions.ABORTED_LOCKED,
        RefTransactions.ABORTED_MISMATCH, RefTransactions.ABORTED_CRASH, RefTransactions.ABORTED_USER};
    static final int[] ENDED = {RefTransactions.DONE, RefTransactions.ABORTED_LOCKED,
        RefTransactions.ABORTED_MISMATCH, RefTransactions.ABORTED_CRASH, RefTransactions.ABORTED_USER};

    private Stores() {
    }

    /**
     * 8 refs, 8 entries, 3 slots. Slot 0 has the status and, unless it is FREE, the updates 0 -> 10 and 1 -> 11; as
     * LOCKING or aborted it has done one lock step. No other slot is in use.
     */
    static RefTransactions slotIn(int status) {
        return slotIn(0, status);
    }

    /** The same for slot 1, with a slot below it that begin takes first. */
    static RefTransactions upperSlotIn(int status) {
        return slotIn(1, status);
    }

    private static RefTransactions slotIn(int slot, int status) {
        RefTransactions x = new RefTransactions(8, 8, 3);
        for (int below = 0; below < slot; below++) {
            x.begin();
        }
        reach(x, slot, status);
        for (int below = 0; below < slot; below++) {
            x.abort(below);
        }
        Check.due("status of the slot asked for", x.status(slot), status);
        return x;
    }

    private static void reach(RefTransactions x, int slot, int status) {
        if (status == RefTransactions.FREE) {
            return;
        }
        Check.open(x, 10, 0);
        int expected = status == RefTransactions.ABORTED_MISMATCH ? 999 : RefTransactions.ANY;
        Check.due("add of ref 1", x.add(slot, 1, expected, 11), RefTransactions.OK);
        if (status == RefTransactions.OPEN) {
            return;
        }
        Check.due("commit", x.commit(slot), RefTransactions.OK);
        Check.due("the first lock step", x.run(slot, 1), 1);
        switch (status) {
            case RefTransactions.COMMITTED -> Check.due("run", x.run(slot, 2), 2);
            case RefTransactions.DONE -> Check.due("run", x.run(slot, 5), 5);
            case RefTransactions.ABORTED_LOCKED -> meetALock(x, slot);
            case RefTransactions.ABORTED_MISMATCH -> Check.due("run into the mismatch", x.run(slot, 1), 0);
            case RefTransactions.ABORTED_USER -> Check.due("abort", x.abort(slot), RefTransactions.OK);
            case RefTransactions.ABORTED_CRASH -> {
                Check.due("crash", x.crash(), RefTransactions.OK);
                Check.due("recover", x.recover(), RefTransactions.OK);
            }
            default -> { }
        }
    }

    private static void meetALock(RefTransactions x, int slot) {
        int holder = Check.locking(x, 20, 1);
        Check.due("run of the holder", x.run(holder, 1), 1);
        Check.due("run into the lock", x.run(slot, 1), 0);
        Check.due("abort of the holder", x.abort(holder), RefTransactions.OK);
    }

    /** 8 refs, 8 entries, 3 slots: 0 LOCKING, 1 OPEN, 2 DONE, and a pack with so many steps done. */
    static RefTransactions packing(int packDone) {
        RefTransactions x = new RefTransactions(8, 8, 3);
        Check.open(x, 10, 0, 1);
        Check.open(x, 20, 2);
        Check.done(x, 30, 3, 4);
        Check.due("packStart()", x.packStart(), RefTransactions.OK);
        Check.due("commit in a pack", x.commit(0), RefTransactions.OK);
        if (packDone > 0) {
            Check.due("packRun(" + packDone + ")", x.packRun(packDone), packDone);
        }
        return x;
    }

    /** 5 refs, a reflog with all of its 8 entries, 2 slots, both OPEN and with MAX_UPDATES updates. */
    static RefTransactions full() {
        RefTransactions x = new RefTransactions(5, 8, 2);
        for (int n = 1; n <= 3; n++) {
            Check.done(x, 100 * n, 0, 1, 2, 3);
        }
        Check.open(x, 10, 0, 1, 2, 3);
        Check.open(x, 20, 1, 2, 3, 4);
        return x;
    }

    /** One maker for every kind of state; each call of a maker builds the same store anew. */
    static Map<String, Supplier<RefTransactions>> all() {
        Map<String, Supplier<RefTransactions>> makers = new LinkedHashMap<>();
        for (int status : STATUSES) {
            makers.put("slot 0 in status " + status, () -> slotIn(status));
        }
        for (int packDone = 0; packDone < RefTransactions.PACK_STEPS; packDone++) {
            int done = packDone;
            makers.put("a pack at step " + done, () -> packing(done));
        }
        makers.put("full slots and a full reflog", Stores::full);
        makers.put("the busy store", Check::busyStore);
        return makers;
    }

    /**
     * All that a fixed run of further calls tells. It shows what no query does, the contents of the updates above all,
     * so two stores whose futures agree differ in nothing that can be seen. A crashed store is recovered first.
     */
    static String future(RefTransactions x) {
        StringBuilder told = new StringBuilder();
        told.append(x.recover()).append(' ').append(Check.view(x)).append(x.packRun(Integer.MAX_VALUE));
        for (int slot = 0; slot < 4; slot++) {
            told.append(' ').append(x.commit(slot));
        }
        for (int round = 0; round < 11; round++) {
            for (int slot = 0; slot < 4; slot++) {
                told.append(' ').append(x.run(slot, 1));
            }
            told.append(Check.view(x));
        }
        for (int slot = 0; slot < 4; slot++) {
            told.append(' ').append(x.begin()).append(' ').append(x.add(slot, slot, 10, 1));
        }
        return told.append(Check.view(x)).toString();
    }
}
