/** Promise 11: value answers what a ref holds. */
public final class Promise11ValueTest {
    public static void main(String[] args) {
        Check.start();
        tellsSetAndDeletedRefs();
        refusesWrongRefs();
        Check.end();
    }

    private static void tellsSetAndDeletedRefs() {
        RefTransactions x = new RefTransactions(16, 8, 1);
        for (int ref = 0; ref < 16; ref++) {
            Check.due("value of a new ref", x.value(ref), 0);
            Check.done(x, 1000 + ref, ref);
        }
        for (int ref = 0; ref < 16; ref++) {
            Check.due("value(" + ref + ")", x.value(ref), 1000 + ref);
        }
        Check.done(x, 0, 7);
        Check.due("value of a deleted ref", x.value(7), 0);
        Check.done(x, Integer.MAX_VALUE, 7);
        Check.due("value of a ref made again", x.value(7), Integer.MAX_VALUE);
        String before = Check.view(x);
        x.value(7);
        Check.same("after value", Check.view(x), before);
    }

    private static void refusesWrongRefs() {
        for (int refs : new int[] {4, 9, 16}) {
            RefTransactions x = new RefTransactions(refs, 8, 1);
            for (int wrong : new int[] {Integer.MIN_VALUE, -1, refs, refs + 1, 17, Integer.MAX_VALUE}) {
                Check.refused("value(" + wrong + ") of " + refs, x, () -> x.value(wrong), RefTransactions.ERR_REF);
            }
            x.crash();
            Check.due("value(0) crashed", x.value(0), RefTransactions.ERR_CRASHED);
            Check.due("value(-1) crashed", x.value(-1), RefTransactions.ERR_CRASHED);
        }
    }
}
