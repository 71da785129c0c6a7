/** "Locks": which refs a slot holds, seen by another slot's lock step. */
public final class LocksTest {
    private static final int[] REFS = {3, 1, 6, 0};

    public static void main(String[] args) {
        Check.start();
        for (int updates = 1; updates <= RefTransactions.MAX_UPDATES; updates++) {
            for (int steps = 0; steps <= 2 * updates + 2; steps++) {
                holdsAtStep(updates, steps);
            }
        }
        noOtherStatusHoldsAny();
        anySlotBlocksAnyOther();
        aSlotDoesNotBlockItself();
        reopenedSlotHoldsNothing();
        twoSlotsInEachOthersWay();
        Check.end();
    }

    /**
     * "A LOCKING slot holds the refs of its first stepsDone updates. A COMMITTED slot holds the refs of all its
     * updates. No other slot holds any ref": a DONE one none.
     */
    private static void holdsAtStep(int updates, int steps) {
        for (int ref = 0; ref < 8; ref++) {
            for (int holder = 0; holder < 2; holder++) {
                RefTransactions x = new RefTransactions(8, 8, 2);
                x.begin();
                x.begin();
                for (int n = 0; n < updates; n++) {
                    x.add(holder, REFS[n], RefTransactions.ANY, 10 + n);
                }
                x.add(1 - holder, ref, RefTransactions.ANY, 50);
                x.commit(0);
                x.commit(1);
                if (steps > 0) {
                    x.run(holder, steps);
                }
                asks(x, 1 - holder, isHeld(updates, steps, ref), "ref " + ref + " at step " + steps + " of " + updates);
            }
        }
    }

    private static boolean isHeld(int updates, int steps, int ref) {
        int held = steps <= updates ? steps : steps <= 2 * updates + 1 ? updates : 0;
        for (int n = 0; n < held; n++) {
            if (REFS[n] == ref) {
                return true;
            }
        }
        return false;
    }

    private static void asks(RefTransactions x, int slot, boolean held, String what) {
        Check.due("lock step of " + what, x.run(slot, 1), held ? 0 : 1);
        Check.due("status after " + what, x.status(slot),
            held ? RefTransactions.ABORTED_LOCKED : RefTransactions.LOCKING);
    }

    /** "No other slot holds any ref", though an aborted one keeps its updates and its stepsDone. */
    private static void noOtherStatusHoldsAny() {
        for (int status : Stores.STATUSES) {
            for (int ref = 0; ref < 2; ref++) {
                RefTransactions x = Stores.upperSlotIn(status);
                int asker = Check.locking(x, 50, ref);
                Check.due("the asking slot", asker, 0);
                Check.due("status(1)", x.status(1), status);
                boolean held = status == RefTransactions.COMMITTED || status == RefTransactions.LOCKING && ref == 0;
                asks(x, asker, held, "ref " + ref + " of a slot in status " + status);
            }
        }
    }

    /** Every two of four slots, whichever has the lower number; the finish step gives the ref back. */
    private static void anySlotBlocksAnyOther() {
        for (int holder = 0; holder < 4; holder++) {
            for (int asker = 0; asker < 4; asker++) {
                if (asker != holder) {
                    RefTransactions x = fourSlotsOnRef5();
                    x.run(holder, 1);
                    asks(x, asker, true, "ref 5 held by slot " + holder);

                    RefTransactions y = fourSlotsOnRef5();
                    y.run(holder, 9);
                    asks(y, asker, false, "ref 5 after slot " + holder + " is DONE");
                }
            }
        }
    }

    private static RefTransactions fourSlotsOnRef5() {
        RefTransactions x = new RefTransactions(8, 8, 4);
        for (int slot = 0; slot < 4; slot++) {
            Check.locking(x, 10 * slot, 5);
        }
        return x;
    }

    /** "held by another slot": its own refs, and the same refs in its earlier transaction, are no hindrance. */
    private static void aSlotDoesNotBlockItself() {
        RefTransactions x = new RefTransactions(8, 8, 1);
        for (int n = 0; n < 3; n++) {
            Check.due("the slot", Check.done(x, 10 * n, REFS), 0);
        }
    }

    /** A slot that had held refs, and names them again, holds none before its lock steps. */
    private static void reopenedSlotHoldsNothing() {
        RefTransactions x = new RefTransactions(8, 8, 2);
        Check.locking(x, 10, REFS);
        Check.locking(x, 50, REFS);
        x.run(0, 4);
        x.abort(0);
        Check.due("begin()", x.begin(), 0);
        for (int ref : REFS) {
            Check.due("add", x.add(0, ref, RefTransactions.ANY, 20), RefTransactions.OK);
        }
        Check.due("lock step beside the OPEN slot", x.run(1, 1), 1);
        x.commit(0);
        Check.due("lock steps beside the LOCKING slot", x.run(1, 3), 3);
        asks(x, 0, true, "ref 3 of slot 1");
    }

    /** Locks in opposite orders end in one abort and never in waiting. */
    private static void twoSlotsInEachOthersWay() {
        RefTransactions x = new RefTransactions(8, 8, 2);
        Check.locking(x, 10, 0, 1);
        Check.locking(x, 20, 1, 0);
        x.run(0, 1);
        x.run(1, 1);
        Check.due("run of slot 0 into ref 1", x.run(0, Integer.MAX_VALUE), 0);
        Check.due("run of slot 1, ref 0 is free again", x.run(1, Integer.MAX_VALUE), 5);
        Check.same("all", Check.view(x), "values 21 20 0 0 0 0 0 0"
            + Check.slotText(0, RefTransactions.ABORTED_LOCKED, 1, 2) + Check.slotText(1, RefTransactions.DONE, 6, 2)
            + " log (1 0 20) (0 0 21) pack 3");
    }
}
