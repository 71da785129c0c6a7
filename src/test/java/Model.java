import java.util.ArrayList;
import java.util.LinkedList;
import java.util.List;

/** The document's visible state kept as lists and objects, to compare the program with. */
final class Model {
    /** One slot: its status, its updates {ref, expected, newValue} and its steps. */
    private static final class Slot {
        int status = RefTransactions.FREE;
        int steps = 0;
        List<int[]> updates = new ArrayList<>();

        boolean is(int... statuses) {
            for (int asked : statuses) {
                if (status == asked) {
                    return true;
                }
            }
            return false;
        }

        boolean holds(int ref) {
            int held = status == RefTransactions.LOCKING ? steps
                : status == RefTransactions.COMMITTED ? updates.size() : 0;
            return updates.subList(0, held).stream().anyMatch(update -> update[0] == ref);
        }
    }

    private final int[] values;
    private final int logCap;
    private final LinkedList<int[]> log = new LinkedList<>();
    private final List<Slot> slots = new ArrayList<>();
    private boolean packing = false;
    private int packDone = 0;
    private boolean crashed = false;

    Model(int refs, int logCap, int slotCount) {
        values = new int[Math.max(4, Math.min(16, refs))];
        this.logCap = Math.max(8, Math.min(32, logCap));
        for (int n = 0; n < Math.max(1, Math.min(4, slotCount)); n++) {
            slots.add(new Slot());
        }
    }

    boolean isCrashed() {
        return crashed;
    }

    private boolean hasSlot(int slot) {
        return 0 <= slot && slot < slots.size();
    }

    private boolean hasRef(int ref) {
        return 0 <= ref && ref < values.length;
    }

    int begin() {
        if (crashed) return RefTransactions.ERR_CRASHED;
        for (int n = 0; n < slots.size(); n++) {
            if (!slots.get(n).is(RefTransactions.OPEN, RefTransactions.LOCKING, RefTransactions.COMMITTED)) {
                slots.set(n, new Slot());
                slots.get(n).status = RefTransactions.OPEN;
                return n;
            }
        }
        return RefTransactions.ERR_FULL;
    }

    int add(int slot, int ref, int expected, int newValue) {
        if (crashed) return RefTransactions.ERR_CRASHED;
        if (!hasSlot(slot)) return RefTransactions.ERR_SLOT;
        Slot s = slots.get(slot);
        if (!s.is(RefTransactions.OPEN)) return RefTransactions.ERR_STATE;
        if (!hasRef(ref)) return RefTransactions.ERR_REF;
        if (expected < -1) return RefTransactions.ERR_VALUE;
        if (newValue < 0) return RefTransactions.ERR_VALUE;
        if (s.updates.size() == 4) return RefTransactions.ERR_FULL;
        if (s.updates.stream().anyMatch(update -> update[0] == ref)) return RefTransactions.ERR_DUP;
        s.updates.add(new int[] {ref, expected, newValue});
        return RefTransactions.OK;
    }

    int commit(int slot) {
        if (crashed) return RefTransactions.ERR_CRASHED;
        if (!hasSlot(slot)) return RefTransactions.ERR_SLOT;
        Slot s = slots.get(slot);
        if (!s.is(RefTransactions.OPEN)) return RefTransactions.ERR_STATE;
        if (s.updates.isEmpty()) return RefTransactions.ERR_EMPTY;
        s.status = RefTransactions.LOCKING;
        return RefTransactions.OK;
    }

    int abort(int slot) {
        if (crashed) return RefTransactions.ERR_CRASHED;
        if (!hasSlot(slot)) return RefTransactions.ERR_SLOT;
        Slot s = slots.get(slot);
        if (!s.is(RefTransactions.OPEN, RefTransactions.LOCKING)) return RefTransactions.ERR_STATE;
        s.status = RefTransactions.ABORTED_USER;
        return RefTransactions.OK;
    }

    int run(int slot, int count) {
        if (crashed) return RefTransactions.ERR_CRASHED;
        if (!hasSlot(slot)) return RefTransactions.ERR_SLOT;
        if (count < 1) return RefTransactions.ERR_COUNT;
        Slot s = slots.get(slot);
        if (!s.is(RefTransactions.LOCKING, RefTransactions.COMMITTED)) return RefTransactions.ERR_STATE;
        if (packing) return RefTransactions.ERR_BUSY;
        int before = s.steps;
        int left = count;
        while (left > 0 && s.is(RefTransactions.LOCKING, RefTransactions.COMMITTED)) {
            step(s);
            left--;
        }
        return s.steps - before;
    }

    private void step(Slot s) {
        int k = s.updates.size();
        int step = s.steps + 1;
        if (step <= k) {
            int[] update = s.updates.get(step - 1);
            if (slots.stream().anyMatch(other -> other != s && other.holds(update[0]))) {
                s.status = RefTransactions.ABORTED_LOCKED;
                return;
            }
            if (update[1] != -1 && update[1] != values[update[0]]) {
                s.status = RefTransactions.ABORTED_MISMATCH;
                return;
            }
        } else if (step == k + 1) {
            s.updates.forEach(this::appendToLog);
            s.updates.forEach(update -> values[update[0]] = update[2]);
            s.status = RefTransactions.COMMITTED;
        } else if (step == 2 * k + 2) {
            s.status = RefTransactions.DONE;
        }
        s.steps = step;
    }

    private void appendToLog(int[] update) {
        if (log.size() == logCap) {
            log.removeFirst();
        }
        log.addLast(new int[] {update[0], values[update[0]], update[2]});
    }

    int packStart() {
        if (crashed) return RefTransactions.ERR_CRASHED;
        if (packing) return RefTransactions.ERR_BUSY;
        if (slots.stream().anyMatch(s -> s.is(RefTransactions.LOCKING, RefTransactions.COMMITTED))) {
            return RefTransactions.ERR_BUSY;
        }
        packing = true;
        packDone = 0;
        return RefTransactions.OK;
    }

    int packRun(int count) {
        if (crashed) return RefTransactions.ERR_CRASHED;
        if (count < 1) return RefTransactions.ERR_COUNT;
        if (!packing) return RefTransactions.ERR_STATE;
        int taken = Math.min(count, 3 - packDone);
        packDone += taken;
        packing = packDone < 3;
        return taken;
    }

    int crash() {
        if (crashed) return RefTransactions.ERR_CRASHED;
        for (Slot s : slots) {
            if (s.is(RefTransactions.OPEN, RefTransactions.LOCKING)) {
                s.status = RefTransactions.ABORTED_CRASH;
            } else if (s.is(RefTransactions.COMMITTED)) {
                s.status = RefTransactions.DONE;
                s.steps = 2 * s.updates.size() + 2;
            }
        }
        packing = false;
        crashed = true;
        return RefTransactions.OK;
    }

    int recover() {
        if (!crashed) return RefTransactions.ERR_STATE;
        crashed = false;
        return RefTransactions.OK;
    }

    int value(int ref) {
        return crashed ? RefTransactions.ERR_CRASHED : hasRef(ref) ? values[ref] : RefTransactions.ERR_REF;
    }

    int status(int slot) {
        return crashed ? RefTransactions.ERR_CRASHED
            : hasSlot(slot) ? slots.get(slot).status : RefTransactions.ERR_SLOT;
    }

    int stepsDone(int slot) {
        return crashed ? RefTransactions.ERR_CRASHED
            : hasSlot(slot) ? slots.get(slot).steps : RefTransactions.ERR_SLOT;
    }

    int updateCount(int slot) {
        return crashed ? RefTransactions.ERR_CRASHED
            : hasSlot(slot) ? slots.get(slot).updates.size() : RefTransactions.ERR_SLOT;
    }

    int logCount() {
        return crashed ? RefTransactions.ERR_CRASHED : log.size();
    }

    int logEntry(int i, int field) {
        if (crashed) return RefTransactions.ERR_CRASHED;
        if (i < 0 || i >= log.size() || field < 0 || field > 2) return RefTransactions.ERR_INDEX;
        return log.get(i)[field];
    }

    int packProgress() {
        return crashed ? RefTransactions.ERR_CRASHED : packing ? packDone : 3;
    }
}
