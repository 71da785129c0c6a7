/** Promise 1: the arguments are clamped, and a new store is empty. */
public final class Promise01ConstructionTest {
    private static final int LOW = Integer.MIN_VALUE;
    private static final int HIGH = Integer.MAX_VALUE;

    public static void main(String[] args) {
        Check.start();
        int[] refs = {LOW, -1, 0, 3, 4, 5, 9, 15, 16, 17, HIGH};
        int[] refsDue = {4, 4, 4, 4, 4, 5, 9, 15, 16, 16, 16};
        for (int n = 0; n < refs.length; n++) {
            sizes(refs[n], 8, 2, refsDue[n], 8, 2);
        }
        int[] logs = {LOW, -1, 0, 7, 8, 9, 20, 31, 32, 33, HIGH};
        int[] logsDue = {8, 8, 8, 8, 8, 9, 20, 31, 32, 32, 32};
        for (int n = 0; n < logs.length; n++) {
            sizes(5, logs[n], 3, 5, logsDue[n], 3);
        }
        int[] slots = {LOW, -1, 0, 1, 2, 3, 4, 5, HIGH};
        int[] slotsDue = {1, 1, 1, 1, 2, 3, 4, 4, 4};
        for (int n = 0; n < slots.length; n++) {
            sizes(6, 10, slots[n], 6, 10, slotsDue[n]);
        }
        sizes(LOW, LOW, LOW, 4, 8, 1);
        sizes(HIGH, HIGH, HIGH, 16, 32, 4);
        storesAreApart();
        Check.end();
    }

    private static void sizes(int refs, int logCap, int slots, int refsDue, int logDue, int slotsDue) {
        String made = "new(" + refs + ", " + logCap + ", " + slots + ") ";
        RefTransactions x = new RefTransactions(refs, logCap, slots);
        StringBuilder empty = new StringBuilder("values");
        for (int ref = 0; ref < refsDue; ref++) {
            empty.append(" 0");
        }
        for (int slot = 0; slot < slotsDue; slot++) {
            empty.append(Check.slotText(slot, RefTransactions.FREE, 0, 0));
        }
        Check.same(made, Check.view(x), empty + " log pack 3");
        Check.due(made + "value(R)", x.value(refsDue), RefTransactions.ERR_REF);
        Check.due(made + "status(S)", x.status(slotsDue), RefTransactions.ERR_SLOT);
        Check.due(made + "recover()", x.recover(), RefTransactions.ERR_STATE);
        for (int n = 0; n < 40; n++) {
            Check.done(x, 100 + n, n % refsDue);
            Check.due(made + "logCount()", x.logCount(), Math.min(n + 1, logDue));
        }
        Check.due(made + "oldest entry", x.logEntry(0, RefTransactions.LOG_NEW), 140 - logDue);
    }

    private static void storesAreApart() {
        RefTransactions one = new RefTransactions(4, 8, 1);
        RefTransactions other = new RefTransactions(4, 8, 1);
        String before = Check.view(other);
        Check.committed(one, 1, 0, 1, 2);
        Check.same("another store", Check.view(other), before);
        one.crash();
        Check.same("another store after a crash", Check.view(other), before);
    }
}
