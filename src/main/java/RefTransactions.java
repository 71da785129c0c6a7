/** A store of numbered refs with transactions over several of them; ../shared/DOC.md tells its promises. */
public final class RefTransactions {
    public static final int FREE = 0;
    public static final int OPEN = 1;
    public static final int LOCKING = 2;
    public static final int COMMITTED = 3;
    public static final int DONE = 4;
    public static final int ABORTED_LOCKED = 5;
    public static final int ABORTED_MISMATCH = 6;
    public static final int ABORTED_CRASH = 7;
    public static final int ABORTED_USER = 8;

    public static final int ANY = -1;
    public static final int MAX_UPDATES = 4;
    public static final int PACK_STEPS = 3;

    public static final int LOG_REF = 0;
    public static final int LOG_OLD = 1;
    public static final int LOG_NEW = 2;

    public static final int OK = 0;
    public static final int ERR_CRASHED = -1;
    public static final int ERR_SLOT = -2;
    public static final int ERR_STATE = -3;
    public static final int ERR_REF = -4;
    public static final int ERR_VALUE = -5;
    public static final int ERR_FULL = -6;
    public static final int ERR_DUP = -7;
    public static final int ERR_EMPTY = -8;
    public static final int ERR_BUSY = -9;
    public static final int ERR_COUNT = -10;
    public static final int ERR_INDEX = -11;

    private static final int LEAST_REFS = 4;
    private static final int MOST_REFS = 16;
    private static final int LEAST_LOG = 8;
    private static final int MOST_LOG = 32;
    private static final int LEAST_SLOTS = 1;
    private static final int MOST_SLOTS = 4;
    private static final int UPDATE_CELLS = MOST_SLOTS * MAX_UPDATES;

    private final int refCount;
    private final int logLimit;
    private final int slotCount;

    // No index leaves its array, because every call keeps these bounds: slotUpdates 0..MAX_UPDATES; slotSteps 0..2k+2
    // for k updates, and 0..k while LOCKING; updateRef 0..refCount-1; logStart 0..logLimit-1; logSize 0..logLimit.

    private final int[] refValue = new int[MOST_REFS];

    private final int[] slotStatus = new int[MOST_SLOTS];
    private final int[] slotSteps = new int[MOST_SLOTS];
    private final int[] slotUpdates = new int[MOST_SLOTS];

    // Arrays have one dimension here, so each slot owns MAX_UPDATES neighbouring cells of these.
    private final int[] updateRef = new int[UPDATE_CELLS];
    private final int[] updateExpected = new int[UPDATE_CELLS];
    private final int[] updateNew = new int[UPDATE_CELLS];

    // A ring, so that dropping the oldest entry moves no other one.
    private final int[] logRef = new int[MOST_LOG];
    private final int[] logOld = new int[MOST_LOG];
    private final int[] logNew = new int[MOST_LOG];
    private int logStart = 0;
    private int logSize = 0;

    // PACK_STEPS stands for "no pack in progress", so the two facts can't disagree.
    private int packDone = PACK_STEPS;

    private boolean crashed = false;

    public RefTransactions(int refs, int logCap, int slots) {
        refCount = clamp(refs, LEAST_REFS, MOST_REFS);
        logLimit = clamp(logCap, LEAST_LOG, MOST_LOG);
        slotCount = clamp(slots, LEAST_SLOTS, MOST_SLOTS);
    }

    public int begin() {
        if (crashed) {
            return ERR_CRASHED;
        }
        for (int slot = 0; slot < slotCount; slot++) {
            if (!isInUse(slot)) {
                slotUpdates[slot] = 0;
                slotSteps[slot] = 0;
                slotStatus[slot] = OPEN;
                return slot;
            }
        }
        return ERR_FULL;
    }

    public int add(int slot, int ref, int expected, int newValue) {
        if (crashed) {
            return ERR_CRASHED;
        }
        if (!isSlot(slot)) {
            return ERR_SLOT;
        }
        if (slotStatus[slot] != OPEN) {
            return ERR_STATE;
        }
        if (!isRef(ref)) {
            return ERR_REF;
        }
        if (expected < ANY || newValue < 0) {
            return ERR_VALUE;
        }
        if (slotUpdates[slot] >= MAX_UPDATES) {
            return ERR_FULL;
        }
        if (isNamed(slot, slotUpdates[slot], ref)) {
            return ERR_DUP;
        }
        int cell = slot * MAX_UPDATES + slotUpdates[slot];
        updateRef[cell] = ref;
        updateExpected[cell] = expected;
        updateNew[cell] = newValue;
        slotUpdates[slot]++;
        return OK;
    }

    public int commit(int slot) {
        if (crashed) {
            return ERR_CRASHED;
        }
        if (!isSlot(slot)) {
            return ERR_SLOT;
        }
        if (slotStatus[slot] != OPEN) {
            return ERR_STATE;
        }
        if (slotUpdates[slot] == 0) {
            return ERR_EMPTY;
        }
        slotStatus[slot] = LOCKING;
        slotSteps[slot] = 0;
        return OK;
    }

    public int abort(int slot) {
        if (crashed) {
            return ERR_CRASHED;
        }
        if (!isSlot(slot)) {
            return ERR_SLOT;
        }
        if (!isUncommitted(slot)) {
            return ERR_STATE;
        }
        slotStatus[slot] = ABORTED_USER;
        return OK;
    }

    public int run(int slot, int count) {
        if (crashed) {
            return ERR_CRASHED;
        }
        if (!isSlot(slot)) {
            return ERR_SLOT;
        }
        if (count < 1) {
            return ERR_COUNT;
        }
        if (!isRunning(slot)) {
            return ERR_STATE;
        }
        if (isPacking()) {
            return ERR_BUSY;
        }
        int before = slotSteps[slot];
        int left = lastStep(slotUpdates[slot]) - before;
        int most = count < left ? count : left;
        for (int i = 0; i < most && isRunning(slot); i++) {
            takeStep(slot);
        }
        return slotSteps[slot] - before;
    }

    public int packStart() {
        if (crashed) {
            return ERR_CRASHED;
        }
        if (isPacking()) {
            return ERR_BUSY;
        }
        for (int slot = 0; slot < slotCount; slot++) {
            if (isRunning(slot)) {
                return ERR_BUSY;
            }
        }
        packDone = 0;
        return OK;
    }

    public int packRun(int count) {
        if (crashed) {
            return ERR_CRASHED;
        }
        if (count < 1) {
            return ERR_COUNT;
        }
        if (!isPacking()) {
            return ERR_STATE;
        }
        int left = PACK_STEPS - packDone;
        int taken = count < left ? count : left;
        packDone += taken;
        return taken;
    }

    public int crash() {
        if (crashed) {
            return ERR_CRASHED;
        }
        for (int slot = 0; slot < slotCount; slot++) {
            settleAtCrash(slot);
        }
        packDone = PACK_STEPS;
        crashed = true;
        return OK;
    }

    public int recover() {
        if (!crashed) {
            return ERR_STATE;
        }
        crashed = false;
        return OK;
    }

    public int value(int ref) {
        if (crashed) {
            return ERR_CRASHED;
        }
        if (!isRef(ref)) {
            return ERR_REF;
        }
        return refValue[ref];
    }

    public int status(int slot) {
        if (crashed) {
            return ERR_CRASHED;
        }
        if (!isSlot(slot)) {
            return ERR_SLOT;
        }
        return slotStatus[slot];
    }

    public int stepsDone(int slot) {
        if (crashed) {
            return ERR_CRASHED;
        }
        if (!isSlot(slot)) {
            return ERR_SLOT;
        }
        return slotSteps[slot];
    }

    public int updateCount(int slot) {
        if (crashed) {
            return ERR_CRASHED;
        }
        if (!isSlot(slot)) {
            return ERR_SLOT;
        }
        return slotUpdates[slot];
    }

    public int logCount() {
        if (crashed) {
            return ERR_CRASHED;
        }
        return logSize;
    }

    public int logEntry(int i, int field) {
        if (crashed) {
            return ERR_CRASHED;
        }
        if (i < 0 || i >= logSize) {
            return ERR_INDEX;
        }
        int cell = logCell(i);
        switch (field) {
            case LOG_REF:
                return logRef[cell];
            case LOG_OLD:
                return logOld[cell];
            case LOG_NEW:
                return logNew[cell];
            default:
                return ERR_INDEX;
        }
    }

    public int packProgress() {
        if (crashed) {
            return ERR_CRASHED;
        }
        return packDone;
    }

    private static int clamp(int wanted, int least, int most) {
        if (wanted < least) {
            return least;
        }
        return wanted > most ? most : wanted;
    }

    private static int lastStep(int updates) {
        return 2 * updates + 2;
    }

    private boolean isSlot(int slot) {
        return slot >= 0 && slot < slotCount;
    }

    private boolean isRef(int ref) {
        return ref >= 0 && ref < refCount;
    }

    private boolean isPacking() {
        return packDone < PACK_STEPS;
    }

    private boolean isUncommitted(int slot) {
        return slotStatus[slot] == OPEN || slotStatus[slot] == LOCKING;
    }

    private boolean isRunning(int slot) {
        return slotStatus[slot] == LOCKING || slotStatus[slot] == COMMITTED;
    }

    private boolean isInUse(int slot) {
        return slotStatus[slot] == OPEN || isRunning(slot);
    }

    /** Whether one of the slot's first updates, as many as told, names the ref. */
    private boolean isNamed(int slot, int updates, int ref) {
        int first = slot * MAX_UPDATES;
        for (int i = 0; i < updates; i++) {
            if (updateRef[first + i] == ref) {
                return true;
            }
        }
        return false;
    }

    // Locks are read off the statuses instead of being kept, so no path can forget to release one.
    private int heldUpdates(int slot) {
        if (slotStatus[slot] == LOCKING) {
            return slotSteps[slot];
        }
        return slotStatus[slot] == COMMITTED ? slotUpdates[slot] : 0;
    }

    private boolean isHeldByOther(int slot, int ref) {
        for (int other = 0; other < slotCount; other++) {
            int held = heldUpdates(other);
            if (other != slot && isNamed(other, held, ref)) {
                return true;
            }
        }
        return false;
    }

    private void takeStep(int slot) {
        int updates = slotUpdates[slot];
        int step = slotSteps[slot] + 1;
        if (step <= updates) {
            takeLockStep(slot);
            return;
        }
        if (step == updates + 1) {
            takeCommitStep(slot);
        } else if (step == lastStep(updates)) {
            slotStatus[slot] = DONE;
        }
        slotSteps[slot] = step;
    }

    private void takeLockStep(int slot) {
        int cell = slot * MAX_UPDATES + slotSteps[slot];
        int ref = updateRef[cell];
        int expected = updateExpected[cell];
        if (isHeldByOther(slot, ref)) {
            slotStatus[slot] = ABORTED_LOCKED;
        } else if (expected != ANY && expected != refValue[ref]) {
            slotStatus[slot] = ABORTED_MISMATCH;
        } else {
            slotSteps[slot]++;
        }
    }

    private void takeCommitStep(int slot) {
        int first = slot * MAX_UPDATES;
        int updates = slotUpdates[slot];
        // add refuses a ref named twice, so no entry's old value is one that this loop wrote.
        for (int i = 0; i < updates; i++) {
            int ref = updateRef[first + i];
            int newValue = updateNew[first + i];
            appendToLog(ref, refValue[ref], newValue);
            refValue[ref] = newValue;
        }
        slotStatus[slot] = COMMITTED;
    }

    private void appendToLog(int ref, int oldValue, int newValue) {
        if (logSize == logLimit) {
            logStart = logCell(1);
            logSize--;
        }
        int cell = logCell(logSize);
        logRef[cell] = ref;
        logOld[cell] = oldValue;
        logNew[cell] = newValue;
        logSize++;
    }

    private int logCell(int i) {
        int cell = logStart + i;
        return cell < logLimit ? cell : cell - logLimit;
    }

    private void settleAtCrash(int slot) {
        if (isUncommitted(slot)) {
            slotStatus[slot] = ABORTED_CRASH;
        } else if (slotStatus[slot] == COMMITTED) {
            slotStatus[slot] = DONE;
            slotSteps[slot] = lastStep(slotUpdates[slot]);
        }
    }
}
