/** Promise 1: the arguments are clamped, and a new store is empty. */
public final class Promise01ConstructionTest {
    private static final int LOW = Integer.MIN_VALUE;
    private static final int HIGH = Integer.MAX_VALUE;

    public static void main(String[] args) {
        Check.start();
        refsAreClampedTo4To16();
        logCapIsClampedTo8To32();
        slotsAreClampedTo1To4();
        anyIntValueIsTaken();
        slotsAreNumberedFrom0();
        noSlotHoldsARef();
        storesAreApart();
        Check.end();
    }

    /** "R = refs clamped to 4..16." */
    private static void refsAreClampedTo4To16() {
        int[] refs = {LOW, LOW + 1, -16, -4, -1, 0, 1, 3, 4, 5, 9, 15, 16, 17, 32, HIGH - 1, HIGH};
        int[] due = {4, 4, 4, 4, 4, 4, 4, 4, 4, 5, 9, 15, 16, 16, 16, 16, 16};
        for (int n = 0; n < refs.length; n++) {
            sizes(refs[n], 8, 2, due[n], 8, 2);
        }
    }

    /** "L = logCap clamped to 8..32." */
    private static void logCapIsClampedTo8To32() {
        int[] logs = {LOW, LOW + 1, -32, -8, -1, 0, 1, 7, 8, 9, 20, 31, 32, 33, 64, HIGH - 1, HIGH};
        int[] due = {8, 8, 8, 8, 8, 8, 8, 8, 8, 9, 20, 31, 32, 32, 32, 32, 32};
        for (int n = 0; n < logs.length; n++) {
            sizes(5, logs[n], 3, 5, due[n], 3);
        }
    }

    /** "S = slots clamped to 1..4." */
    private static void slotsAreClampedTo1To4() {
        int[] slots = {LOW, LOW + 1, -4, -1, 0, 1, 2, 3, 4, 5, 8, HIGH - 1, HIGH};
        int[] due = {1, 1, 1, 1, 1, 1, 2, 3, 4, 4, 4, 4, 4};
        for (int n = 0; n < slots.length; n++) {
            sizes(6, 10, slots[n], 6, 10, due[n]);
        }
    }

    /** "any int value included": each bit on its own, its neighbours and its negation, and all edges together. */
    private static void anyIntValueIsTaken() {
        for (int bit = 0; bit < 32; bit++) {
            for (int beside = -1; beside <= 1; beside++) {
                clampedApart((1 << bit) + beside);
                clampedApart(-(1 << bit) + beside);
            }
        }
        for (int refs : Check.EDGES) {
            for (int logCap : Check.EDGES) {
                for (int slots : Check.EDGES) {
                    sizes(refs, logCap, slots, between(4, refs, 16), between(8, logCap, 32), between(1, slots, 4));
                }
            }
        }
    }

    private static void clampedApart(int asked) {
        sizes(asked, 12, 2, between(4, asked, 16), 12, 2);
        sizes(7, asked, 2, 7, between(8, asked, 32), 2);
        sizes(7, 12, asked, 7, 12, between(1, asked, 4));
    }

    private static int between(int least, int asked, int most) {
        return Math.max(least, Math.min(asked, most));
    }

    /** The new store is empty and has just the sizes due: "Initially every value is 0, the reflog is empty, ..." */
    private static void sizes(int refs, int logCap, int slots, int refsDue, int logDue, int slotsDue) {
        String made = "new(" + refs + ", " + logCap + ", " + slots + ") ";
        RefTransactions x = new RefTransactions(refs, logCap, slots);
        StringBuilder empty = new StringBuilder("values");
        for (int ref = 0; ref < refsDue; ref++) {
            empty.append(" 0");
        }
        for (int slot = 0; slot < slotsDue; slot++) {
            empty.append(Check.slotText(slot, RefTransactions.FREE, 0, 0));
        }
        Check.same(made, Check.view(x), empty + " log pack 3");
        Check.due(made + "value(R - 1)", x.value(refsDue - 1), 0);
        Check.due(made + "value(R)", x.value(refsDue), RefTransactions.ERR_REF);
        Check.due(made + "status(S - 1)", x.status(slotsDue - 1), RefTransactions.FREE);
        Check.due(made + "status(S)", x.status(slotsDue), RefTransactions.ERR_SLOT);
        Check.due(made + "packRun(1)", x.packRun(1), RefTransactions.ERR_STATE);
        Check.due(made + "recover()", x.recover(), RefTransactions.ERR_STATE);
        for (int n = 0; n < 40; n++) {
            Check.done(x, 100 + n, n % refsDue);
            Check.due(made + "logCount()", x.logCount(), Math.min(n + 1, logDue));
        }
        Check.due(made + "oldest entry", x.logEntry(0, RefTransactions.LOG_NEW), 140 - logDue);
    }

    /** "Slots are numbered 0..S-1." */
    private static void slotsAreNumberedFrom0() {
        for (int slots = 1; slots <= 4; slots++) {
            RefTransactions x = new RefTransactions(4, 8, slots);
            for (int n = 0; n < slots; n++) {
                Check.due("begin() number " + n, x.begin(), n);
            }
            Check.due("begin() with all taken", x.begin(), RefTransactions.ERR_FULL);
        }
    }

    /** "No slot holds any ref": the first transaction of a new store locks any ref. */
    private static void noSlotHoldsARef() {
        for (int slots = 1; slots <= 4; slots++) {
            for (int ref = 0; ref < 16; ref++) {
                RefTransactions x = new RefTransactions(16, 8, slots);
                int slot = Check.locking(x, 1, ref);
                Check.due("the lock step of ref " + ref, x.run(slot, 1), 1);
                Check.due("status", x.status(slot), RefTransactions.LOCKING);
            }
        }
    }

    private static void storesAreApart() {
        RefTransactions one = new RefTransactions(4, 8, 1);
        RefTransactions other = new RefTransactions(4, 8, 1);
        String before = Check.view(other);
        Check.committed(one, 1, 0, 1, 2);
        Check.same("another store", Check.view(other), before);
        one.crash();
        Check.same("another store after a crash", Check.view(other), before);
    }
}
