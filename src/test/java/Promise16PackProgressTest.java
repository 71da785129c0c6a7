/** Promise 16: packProgress answers how far a pack is, or PACK_STEPS when there is none. */
public final class Promise16PackProgressTest {
    public static void main(String[] args) {
        Check.start();
        RefTransactions x = new RefTransactions(4, 8, 1);
        for (int round = 0; round < 2; round++) {
            Check.due("packProgress() without a pack", x.packProgress(), 3);
            x.packStart();
            for (int n = 0; n < 3; n++) {
                Check.due("packProgress()", x.packProgress(), n);
                Check.due("packProgress() asked again", x.packProgress(), n);
                x.packRun(1);
            }
            Check.due("packProgress() after the pack", x.packProgress(), 3);
        }
        x.packStart();
        x.packRun(2);
        x.crash();
        Check.due("packProgress() crashed", x.packProgress(), RefTransactions.ERR_CRASHED);
        x.recover();
        Check.due("packProgress() recovered", x.packProgress(), 3);
        Check.end();
    }
}
