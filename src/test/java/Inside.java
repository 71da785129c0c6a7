import java.lang.reflect.Field;
import java.util.HashMap;
import java.util.Map;

/**
 * A store's private state, for the bounds that its indexes rest on. The program tells them above its arrays; nothing
 * else is read or set here.
 */
final class Inside {
    private static final int MOST_UPDATES = RefTransactions.MAX_UPDATES;
    // Looking a field up takes far longer than reading it.
    private static final Map<String, Field> FIELDS = new HashMap<>();
    private static final int[] SIZES = {Integer.MIN_VALUE, 5, 8, 9, 16, 31, Integer.MAX_VALUE};

    private final RefTransactions x;
    private final int refs;
    private final int logLimit;
    private final int slots;
    private final int[] status;
    private final int[] steps;
    private final int[] updates;
    private final int[] updateRef;

    Inside(RefTransactions x) {
        this.x = x;
        refs = number("refCount");
        logLimit = number("logLimit");
        slots = number("slotCount");
        status = array("slotStatus");
        steps = array("slotSteps");
        updates = array("slotUpdates");
        updateRef = array("updateRef");
    }

    /** A store in some state within the bounds, whether calls can reach it or not. */
    static RefTransactions store(Sequence sequence) {
        int refs = sequence.oneOf(SIZES);
        int log = sequence.oneOf(SIZES);
        Inside inside = new Inside(new RefTransactions(refs, log, 1 + sequence.next(4)));
        for (int slot = 0; slot < inside.slots; slot++) {
            inside.setSlot(slot, sequence);
        }
        inside.setLog(sequence);
        inside.set("packDone", sequence.next(2) == 0 ? RefTransactions.PACK_STEPS : sequence.next(3));
        return inside.x;
    }

    private void setSlot(int slot, Sequence sequence) {
        status[slot] = sequence.next(9);
        updates[slot] = sequence.next(MOST_UPDATES + 1);
        steps[slot] = sequence.next(mostSteps(slot) + 1);
        for (int n = 0; n < MOST_UPDATES; n++) {
            int cell = slot * MOST_UPDATES + n;
            updateRef[cell] = sequence.next(2) == 0 ? refs - 1 : sequence.next(refs);
            array("updateExpected")[cell] = sequence.next(5) == 0 ? 7 : RefTransactions.ANY;
            array("updateNew")[cell] = sequence.next(3);
        }
    }

    private void setLog(Sequence sequence) {
        int[] sizes = {0, sequence.next(logLimit), logLimit - 1, logLimit};
        set("logStart", sequence.next(2) == 0 ? logLimit - 1 : sequence.next(logLimit));
        set("logSize", sequence.oneOf(sizes));
    }

    private int mostSteps(int slot) {
        return status[slot] == RefTransactions.LOCKING ? updates[slot] : 2 * updates[slot] + 2;
    }

    boolean keepsItsBounds() {
        boolean kept = within(0, number("logStart"), logLimit - 1) && within(0, number("logSize"), logLimit)
            && within(0, number("packDone"), RefTransactions.PACK_STEPS);
        for (int slot = 0; slot < slots; slot++) {
            kept &= within(0, status[slot], 8) && within(0, updates[slot], MOST_UPDATES)
                && within(0, steps[slot], mostSteps(slot));
            for (int n = 0; n < updates[slot]; n++) {
                kept &= within(0, updateRef[slot * MOST_UPDATES + n], refs - 1);
            }
        }
        return kept;
    }

    private static boolean within(int least, int number, int most) {
        return least <= number && number <= most;
    }

    private static Field field(String name) {
        return FIELDS.computeIfAbsent(name, Inside::lookUp);
    }

    private static Field lookUp(String name) {
        try {
            Field field = RefTransactions.class.getDeclaredField(name);
            field.setAccessible(true);
            return field;
        } catch (NoSuchFieldException e) {
            throw new IllegalStateException(e);
        }
    }

    private int number(String name) {
        try {
            return field(name).getInt(x);
        } catch (IllegalAccessException e) {
            throw new IllegalStateException(e);
        }
    }

    private int[] array(String name) {
        try {
            return (int[]) field(name).get(x);
        } catch (IllegalAccessException e) {
            throw new IllegalStateException(e);
        }
    }

    private void set(String name, int number) {
        try {
            field(name).setInt(x, number);
        } catch (IllegalAccessException e) {
            throw new IllegalStateException(e);
        }
    }
}
