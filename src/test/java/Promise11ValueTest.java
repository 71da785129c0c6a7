/** Promise 11: value answers what a ref holds. */
public final class Promise11ValueTest {
    public static void main(String[] args) {
        Check.start();
        tellsSetAndDeletedRefs();
        refusesWrongRefs();
        refusedWhileCrashed();
        Check.end();
    }

    private static void tellsSetAndDeletedRefs() {
        RefTransactions x = new RefTransactions(16, 8, 1);
        for (int ref = 0; ref < 16; ref++) {
            Check.due("value of a new ref", x.value(ref), 0);
            Check.done(x, 1000 + ref, ref);
        }
        for (int ref = 0; ref < 16; ref++) {
            Check.due("value(" + ref + ")", x.value(ref), 1000 + ref);
        }
        Check.done(x, 0, 7);
        Check.due("value of a deleted ref", x.value(7), 0);
        Check.done(x, Integer.MAX_VALUE, 7);
        Check.due("value of a ref made again", x.value(7), Integer.MAX_VALUE);
        String before = Check.view(x);
        x.value(7);
        Check.same("after value", Check.view(x), before);
    }

    /** "ref not in 0..R-1 -> ERR_REF" */
    private static void refusesWrongRefs() {
        for (int refs = 4; refs <= 16; refs++) {
            RefTransactions x = new RefTransactions(refs, 8, 1);
            Check.done(x, 5, 0, refs - 1);
            for (int wrong : new int[] {Integer.MIN_VALUE, Integer.MIN_VALUE + 1, -16, -2, -1, refs, refs + 1, 16, 17,
                Integer.MAX_VALUE}) {
                Check.refused("value(" + wrong + ") of " + refs, x, () -> x.value(wrong), RefTransactions.ERR_REF);
            }
            Check.due("value(0)", x.value(0), 5);
            Check.due("value(R - 1)", x.value(refs - 1), 6);
        }
    }

    /** "crashed -> ERR_CRASHED" comes before a wrong ref. */
    private static void refusedWhileCrashed() {
        RefTransactions x = new RefTransactions(4, 8, 1);
        Check.done(x, 5, 0);
        x.crash();
        for (int ref : Check.EDGES) {
            Check.due("value(" + ref + ") crashed", x.value(ref), RefTransactions.ERR_CRASHED);
        }
        x.recover();
        Check.due("value(0) recovered", x.value(0), 5);
    }
}
