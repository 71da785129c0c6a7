/** "Visible state. Every answer depends on this and nothing else": not on the way that led there. */
public final class VisibleStateTest {
    public static void main(String[] args) {
        Check.start();
        for (int cap : new int[] {8, 9, 13, 31, 32}) {
            String due = ahead(cap, 0, false);
            for (int rounds = 1; rounds <= cap + 1; rounds++) {
                Check.same("after " + rounds + " more rounds, reflog of " + cap, ahead(cap, rounds, false), due);
                Check.same("the same with packs and crashes, reflog of " + cap, ahead(cap, rounds, true), due);
            }
        }
        Check.end();
    }

    /**
     * The state is the same for any number of rounds: what comes last fills the whole reflog, every slot and every
     * value, but the number of entries that were ever written differs by 3 from round to round.
     */
    private static String ahead(int cap, int rounds, boolean disturbed) {
        RefTransactions x = new RefTransactions(6, cap, 3);
        for (int n = 0; n < rounds; n++) {
            Check.done(x, 1 + n, 0, 1, 2);
            if (disturbed) {
                disturb(x, n);
            }
        }
        for (int n = 0; n < cap + 6; n++) {
            Check.done(x, n < 6 ? 0 : 40 + n, n % 6);
        }
        Check.open(x, 0, 3, 4);
        Check.open(x, 70, 5);
        Check.locking(x, 80, 4, 5, 3);
        Check.due("run", x.run(2, 2), 2);
        return Check.view(x) + playOn(x);
    }

    /** Aborted and crashed transactions and broken packs, none of which leaves a trace in the end. */
    private static void disturb(RefTransactions x, int n) {
        Check.due("packStart()", x.packStart(), RefTransactions.OK);
        Check.due("packRun", x.packRun(1 + n % 2), 1 + n % 2);
        int slot = Check.locking(x, 900, 5, 4, 3, 2);
        Check.due("crash()", x.crash(), RefTransactions.OK);
        Check.due("recover()", x.recover(), RefTransactions.OK);
        Check.due("begin()", x.begin(), slot);
        Check.open(x, 950, 1, 2, 3, 4);
        Check.locking(x, 960, 4, 3, 2, 1);
        Check.due("run", x.run(2, 1 + n % 4), 1 + n % 4);
        for (int used = 0; used < 3; used++) {
            Check.due("abort", x.abort(used), RefTransactions.OK);
        }
    }

    private static String playOn(RefTransactions x) {
        StringBuilder told = new StringBuilder();
        for (int n = 0; n < 12; n++) {
            told.append(x.commit(n % 3)).append(' ').append(x.run(n % 3, 1 + n % 5)).append(Check.view(x));
        }
        return told.append(Stores.future(x)).toString();
    }
}
