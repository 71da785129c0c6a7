import java.util.ArrayList;
import java.util.Arrays;
import java.util.List;

/**
 * "Lasting guarantees", in every state that long mixed runs of calls reach. What is due is told by the calls' own
 * answers: which updates were taken, and which run went past a commit step. The runs are the same every time.
 */
public final class LastingGuaranteesTest {
    private static final int STORES = 300;
    private static final int CALLS = 1200;
    private static final int REFS = 5;
    private static final int SLOTS = 3;

    private final RefTransactions x;
    private final int cap;
    private final Sequence sequence;
    private final List<List<int[]>> updates = new ArrayList<>();
    private final int[] lastWritten = new int[REFS];
    private final List<int[]> written = new ArrayList<>();
    private final int[] ends = new int[9];

    private LastingGuaranteesTest(int seed) {
        sequence = new Sequence(77L + seed);
        cap = 8 + seed % 25;
        x = new RefTransactions(REFS, cap, SLOTS);
        for (int slot = 0; slot < SLOTS; slot++) {
            updates.add(new ArrayList<>());
        }
    }

    public static void main(String[] args) {
        Check.start();
        int[] ends = new int[9];
        for (int seed = 0; seed < STORES; seed++) {
            LastingGuaranteesTest one = new LastingGuaranteesTest(seed);
            one.play();
            for (int status = 0; status < ends.length; status++) {
                ends[status] += one.ends[status];
            }
        }
        for (int status : Stores.ENDED) {
            Check.due("slots seen to end as " + status + ", enough of them", ends[status] > 100 ? 1 : 0, 1);
        }
        Check.end();
    }

    private void play() {
        for (int n = 0; n < CALLS; n++) {
            String before = state();
            int[] statuses = statuses();
            boolean committed = makeCall();
            if (!committed) {
                Check.same("values and reflog without a commit step", state(), before);
            }
            noteEnds(statuses);
            valuesAreTheLastOnesWritten();
            logIsTheEndOfAllEntries();
            newestEntryTellsTheValue();
        }
    }

    private String state() {
        return Check.values(x) + Check.log(x);
    }

    private int[] statuses() {
        int[] told = new int[SLOTS];
        Arrays.setAll(told, x::status);
        return told;
    }

    private void noteEnds(int[] before) {
        for (int slot = 0; slot < SLOTS; slot++) {
            int status = x.status(slot);
            if (status != before[slot]) {
                ends[status]++;
            }
        }
    }

    /** Whether a transaction completed its commit step in the call. A crash is recovered from at once. */
    private boolean makeCall() {
        int slot = sequence.next(SLOTS);
        switch (sequence.next(10)) {
            case 0, 1 -> noteBegin(x.begin());
            case 2, 3, 4 -> noteAdd(slot, sequence.next(REFS), sequence.next(4) - 1, sequence.next(3));
            case 5 -> x.commit(slot);
            case 6, 7 -> {
                return noteRun(slot, 1 + sequence.next(11));
            }
            case 8 -> disturb();
            default -> {
                if (sequence.next(8) == 0) {
                    x.abort(slot);
                }
            }
        }
        return false;
    }

    private void noteBegin(int slot) {
        if (slot >= 0) {
            updates.get(slot).clear();
        }
    }

    private void noteAdd(int slot, int ref, int expected, int newValue) {
        // Mostly what the ref holds, or most transactions would end in a mismatch.
        int asked = sequence.next(2) == 0 ? x.value(ref) : expected;
        if (x.add(slot, ref, asked, newValue) == RefTransactions.OK) {
            updates.get(slot).add(new int[] {ref, newValue});
        }
    }

    private boolean noteRun(int slot, int count) {
        int before = x.stepsDone(slot);
        int taken = x.run(slot, count);
        int commitStep = updates.get(slot).size() + 1;
        if (taken <= 0 || before >= commitStep || before + taken < commitStep) {
            return false;
        }
        for (int[] update : updates.get(slot)) {
            written.add(new int[] {update[0], lastWritten[update[0]], update[1]});
            lastWritten[update[0]] = update[1];
        }
        return true;
    }

    private void disturb() {
        int kind = sequence.next(12);
        if (kind < 3) {
            x.packStart();
        } else if (kind < 11) {
            x.packRun(1 + sequence.next(3));
        } else {
            Check.due("crash()", x.crash(), RefTransactions.OK);
            Check.due("recover()", x.recover(), RefTransactions.OK);
        }
    }

    /** The first guarantee; with the comparison of states in play() it is the second one, too. */
    private void valuesAreTheLastOnesWritten() {
        for (int ref = 0; ref < REFS; ref++) {
            Check.due("value(" + ref + ")", x.value(ref), lastWritten[ref]);
        }
    }

    private void logIsTheEndOfAllEntries() {
        int count = Math.min(cap, written.size());
        Check.due("logCount()", x.logCount(), count);
        for (int i = 0; i < count; i++) {
            int[] due = written.get(written.size() - count + i);
            int[] got = {x.logEntry(i, RefTransactions.LOG_REF), x.logEntry(i, RefTransactions.LOG_OLD),
                x.logEntry(i, RefTransactions.LOG_NEW)};
            Check.due("entry " + i + " as due", Arrays.equals(got, due) ? 1 : 0, 1);
        }
    }

    /** The third guarantee. */
    private void newestEntryTellsTheValue() {
        boolean[] met = new boolean[REFS];
        for (int i = x.logCount() - 1; i >= 0; i--) {
            int ref = x.logEntry(i, RefTransactions.LOG_REF);
            if (!met[ref]) {
                met[ref] = true;
                Check.due("newest entry of ref " + ref, x.logEntry(i, RefTransactions.LOG_NEW), x.value(ref));
            }
        }
    }
}
