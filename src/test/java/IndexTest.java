import java.util.Map;
import java.util.function.ToIntFunction;

/**
 * Rule 7 of ../shared/LANGUAGE.md: "No call may ever throw or fail to end, for any arguments in any state". A new store
 * keeps the bounds that the program tells above its arrays; in many states set from within these bounds, whether calls
 * reach them or not, no call with edge arguments throws or leaves the bounds.
 */
public final class IndexTest {
    private static final int STATES = 600;

    public static void main(String[] args) {
        Check.start();
        newStoresKeepTheBounds();
        Map<String, ToIntFunction<RefTransactions>> calls = Calls.mutators();
        calls.putAll(Calls.queries());
        for (int seed = 0; seed < STATES; seed++) {
            int state = seed;
            calls.forEach((text, call) -> {
                keepsTheBounds(state, text, call, false);
                keepsTheBounds(state, text, call, true);
            });
        }
        Check.end();
    }

    private static void newStoresKeepTheBounds() {
        for (int refs : Check.EDGES) {
            for (int logCap : Check.EDGES) {
                for (int slots : Check.EDGES) {
                    Inside inside = new Inside(new RefTransactions(refs, logCap, slots));
                    Check.due("bounds kept by a new store", inside.keepsItsBounds() ? 1 : 0, 1);
                }
            }
        }
    }

    private static void keepsTheBounds(int state, String text, ToIntFunction<RefTransactions> call, boolean crashed) {
        RefTransactions x = Inside.store(new Sequence(state));
        if (crashed) {
            x.crash();
        }
        String where = text + " in state " + state + (crashed ? ", crashed" : "");
        try {
            call.applyAsInt(x);
        } catch (RuntimeException e) {
            Check.same(where + " throws", e.toString(), "nothing");
        }
        Check.due("bounds kept by " + where, new Inside(x).keepsItsBounds() ? 1 : 0, 1);
    }
}
