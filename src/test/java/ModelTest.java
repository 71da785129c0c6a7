/**
 * All promises together and the lasting guarantees: long mixed runs of calls, each answer and each state compared
 * with the model. The runs come from a fixed sequence, so every run of this test is the same.
 */
public final class ModelTest {
    private static final int STORES = 400;
    private static final int CALLS = 1500;
    private static final int[] SIZES = {Integer.MIN_VALUE, -1, 0, 1, 2, 3, 4, 5, 6, 7, 8, 9, 10, 15, 16, 17, 31, 32,
        33, Integer.MAX_VALUE};
    private static final int[] COUNTS = {1, 1, 1, 1, 2, 2, 3, 4, 5, 9, 10, 11, Integer.MAX_VALUE, 0, -1,
        Integer.MIN_VALUE};
    private static final int[] VALUES = {0, 0, 1, 1, 2, 2, 3, Integer.MAX_VALUE, -1, -2, Integer.MIN_VALUE};
    private static final int[] EXPECTED = {-1, -1, -1, -1, -1, 0, 0, 1, 2, 3, Integer.MAX_VALUE, -2,
        Integer.MIN_VALUE};
    private static final int[] WRONG = {Integer.MIN_VALUE, -1, 3, 4, 16, 32, Integer.MAX_VALUE};

    private final int seed;
    private final Sequence sequence;
    private RefTransactions x;
    private Model model;
    private int refs;
    private int slots;

    private ModelTest(int seed) {
        this.seed = seed;
        sequence = new Sequence(seed * 0x9E3779B97F4A7C15L + 1);
    }

    public static void main(String[] args) {
        Check.start();
        for (int seed = 0; seed < STORES; seed++) {
            new ModelTest(seed).runOne();
        }
        Check.end();
    }

    private int someSlot() {
        return sequence.next(30) == 0 ? sequence.oneOf(WRONG) : sequence.next(slots);
    }

    /** Mostly few refs, so that transactions meet each other's locks. */
    private int someRef() {
        return sequence.next(30) == 0 ? sequence.oneOf(WRONG) : sequence.next(sequence.next(3) == 0 ? refs : 4);
    }

    private void runOne() {
        int refsAsked = sequence.oneOf(SIZES);
        int logAsked = sequence.oneOf(SIZES);
        int slotsAsked = sequence.next(2) == 0 ? 4 : sequence.oneOf(SIZES);
        x = new RefTransactions(refsAsked, logAsked, slotsAsked);
        model = new Model(refsAsked, logAsked, slotsAsked);
        refs = Math.max(4, Math.min(16, refsAsked));
        slots = Math.max(1, Math.min(4, slotsAsked));
        for (int n = 0; n < CALLS; n++) {
            String at = "store " + seed + ", call " + n + ": ";
            makeCall(at);
            compareState(at);
            checkGuarantees(at);
        }
    }

    private void makeCall(String at) {
        if (model.isCrashed() && sequence.next(3) == 0) {
            Check.due(at + "recover()", x.recover(), model.recover());
            return;
        }
        int slot = someSlot();
        int count = sequence.oneOf(COUNTS);
        int kind = sequence.next(100);
        if (kind < 15) {
            Check.due(at + "begin()", x.begin(), model.begin());
        } else if (kind < 45) {
            int ref = someRef();
            int value = sequence.oneOf(VALUES);
            int expected = sequence.next(3) == 0 ? model.value(ref) : sequence.oneOf(EXPECTED);
            Check.due(at + "add(" + slot + ", " + ref + ", " + expected + ", " + value + ")",
                x.add(slot, ref, expected, value), model.add(slot, ref, expected, value));
        } else if (kind < 58) {
            Check.due(at + "commit(" + slot + ")", x.commit(slot), model.commit(slot));
        } else if (kind < 61) {
            Check.due(at + "abort(" + slot + ")", x.abort(slot), model.abort(slot));
        } else if (kind < 85) {
            Check.due(at + "run(" + slot + ", " + count + ")", x.run(slot, count), model.run(slot, count));
        } else if (kind < 89) {
            Check.due(at + "packStart()", x.packStart(), model.packStart());
        } else if (kind < 97) {
            Check.due(at + "packRun(" + count + ")", x.packRun(count), model.packRun(count));
        } else if (kind < 99) {
            Check.due(at + "crash()", x.crash(), model.crash());
        } else {
            Check.due(at + "recover()", x.recover(), model.recover());
        }
    }

    private void compareState(String at) {
        for (int ref = -1; ref <= 16; ref++) {
            Check.due(at + "value(" + ref + ")", x.value(ref), model.value(ref));
        }
        for (int slot = -1; slot <= 4; slot++) {
            Check.due(at + "status(" + slot + ")", x.status(slot), model.status(slot));
            Check.due(at + "stepsDone(" + slot + ")", x.stepsDone(slot), model.stepsDone(slot));
            Check.due(at + "updateCount(" + slot + ")", x.updateCount(slot), model.updateCount(slot));
        }
        Check.due(at + "logCount()", x.logCount(), model.logCount());
        for (int i = -1; i <= 32; i++) {
            for (int field = -1; field <= 3; field++) {
                Check.due(at + "logEntry(" + i + ", " + field + ")", x.logEntry(i, field), model.logEntry(i, field));
            }
        }
        Check.due(at + "packProgress()", x.packProgress(), model.packProgress());
    }

    /** The newest reflog entry of a ref tells its value. */
    private void checkGuarantees(String at) {
        boolean[] met = new boolean[refs];
        for (int i = x.logCount() - 1; i >= 0; i--) {
            int ref = x.logEntry(i, RefTransactions.LOG_REF);
            if (!met[ref]) {
                met[ref] = true;
                Check.due(at + "newest entry of ref " + ref, x.logEntry(i, RefTransactions.LOG_NEW), x.value(ref));
            }
        }
    }
}
