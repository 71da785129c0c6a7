import java.util.function.IntSupplier;

/** What the tests share: comparing answers, reading the whole visible state, and short ways into a state. */
final class Check {
    /** The ends of the int range, and the numbers at and beside each least and greatest of the document. */
    static final int[] EDGES = {Integer.MIN_VALUE, Integer.MIN_VALUE + 1, -2, -1, 0, 1, 2, 3, 4, 5, 7, 8, 9, 15, 16, 17,
        31, 32, 33, Integer.MAX_VALUE - 1, Integer.MAX_VALUE};
    private static final int PATIENCE_MILLIS = 120_000;
    private static int wrong = 0;

    private Check() {
    }

    /** Ends the test as failed if a call never ends; without it such a fault would hang the whole run. */
    static void start() {
        Thread watch = new Thread(() -> {
            try {
                Thread.sleep(PATIENCE_MILLIS);
            } catch (InterruptedException e) {
                return;
            }
            System.out.println("the test did not end in time");
            Runtime.getRuntime().halt(1);
        });
        watch.setDaemon(true);
        watch.start();
    }

    static void end() {
        if (wrong != 0) {
            System.out.println(wrong + " answers are not as due");
            System.exit(1);
        }
    }

    static void due(String call, int got, int want) {
        if (got != want) {
            wrong++;
            System.out.println(call + " answered " + got + ", due is " + want);
        }
    }

    static void same(String what, String got, String want) {
        if (!got.equals(want)) {
            wrong++;
            System.out.println(what + "\n  got: " + got + "\n  due: " + want);
        }
    }

    /** The call must answer the error and leave every visible thing as it was. */
    static void refused(String call, RefTransactions x, IntSupplier made, int error) {
        String before = view(x);
        due(call, made.getAsInt(), error);
        same("after the refused " + call, view(x), before);
    }

    /** Everything that the queries tell, in one line. */
    static String view(RefTransactions x) {
        return values(x) + slots(x) + log(x) + " pack " + x.packProgress();
    }

    static String values(RefTransactions x) {
        StringBuilder told = new StringBuilder("values");
        for (int ref = 0; ref < 20 && x.value(ref) >= 0; ref++) {
            told.append(' ').append(x.value(ref));
        }
        return told.toString();
    }

    static String slots(RefTransactions x) {
        StringBuilder told = new StringBuilder();
        for (int slot = 0; slot < 8 && x.status(slot) >= 0; slot++) {
            told.append(slot(x, slot));
        }
        return told.toString();
    }

    static String slot(RefTransactions x, int slot) {
        return slotText(slot, x.status(slot), x.stepsDone(slot), x.updateCount(slot));
    }

    static String slotText(int slot, int status, int steps, int updates) {
        return " slot " + slot + ": status " + status + " steps " + steps + " updates " + updates;
    }

    static String log(RefTransactions x) {
        StringBuilder told = new StringBuilder(" log");
        for (int i = 0; i < x.logCount(); i++) {
            told.append(" (").append(x.logEntry(i, RefTransactions.LOG_REF))
                .append(' ').append(x.logEntry(i, RefTransactions.LOG_OLD))
                .append(' ').append(x.logEntry(i, RefTransactions.LOG_NEW)).append(')');
        }
        return told.toString();
    }

    /** Begins a transaction that sets the refs without condition, the n-th one to first + n; answers its slot. */
    static int open(RefTransactions x, int first, int... refs) {
        int slot = x.begin();
        for (int n = 0; n < refs.length; n++) {
            due("add of ref " + refs[n], x.add(slot, refs[n], RefTransactions.ANY, first + n), RefTransactions.OK);
        }
        return slot;
    }

    static int locking(RefTransactions x, int first, int... refs) {
        int slot = open(x, first, refs);
        due("commit of slot " + slot, x.commit(slot), RefTransactions.OK);
        return slot;
    }

    static int committed(RefTransactions x, int first, int... refs) {
        int slot = locking(x, first, refs);
        due("run up to the commit step", x.run(slot, refs.length + 1), refs.length + 1);
        return slot;
    }

    static int done(RefTransactions x, int first, int... refs) {
        int slot = locking(x, first, refs);
        due("run to the end", x.run(slot, Integer.MAX_VALUE), 2 * refs.length + 2);
        return slot;
    }

    /** Four slots: 0 DONE, 1 ABORTED_USER, 2 COMMITTED on ref 2, 3 LOCKING on refs 3 (held) and 4 (not yet). */
    static RefTransactions busyStore() {
        RefTransactions x = new RefTransactions(8, 8, 4);
        int first = locking(x, 10, 0, 1);
        int second = open(x, 20, 5);
        committed(x, 30, 2);
        int fourth = locking(x, 40, 3, 4);
        due("run of one lock step", x.run(fourth, 1), 1);
        due("run to the end", x.run(first, 6), 6);
        due("abort", x.abort(second), RefTransactions.OK);
        same("the busy store", view(x), "values 10 11 30 0 0 0 0 0"
            + slotText(0, RefTransactions.DONE, 6, 2) + slotText(1, RefTransactions.ABORTED_USER, 0, 1)
            + slotText(2, RefTransactions.COMMITTED, 2, 1) + slotText(3, RefTransactions.LOCKING, 1, 2)
            + " log (2 0 30) (0 0 10) (1 0 11) pack 3");
        return x;
    }
}
