import java.util.Map;
import java.util.function.Supplier;
import java.util.function.ToIntFunction;

/** "General rules", for every method with every kind of argument in every kind of state. */
public final class GeneralRulesTest {
    public static void main(String[] args) {
        Check.start();
        Stores.all().forEach((state, maker) -> {
            refusedCallsChangeNothing(state, maker);
            queriesChangeNothing(state, maker);
            crashedStoreIsShut(state, maker);
        });
        Check.end();
    }

    /** "A refused call changes nothing." The store goes on like one that never got the call. */
    private static void refusedCallsChangeNothing(String state, Supplier<RefTransactions> maker) {
        String due = Stores.future(maker.get());
        int refused = 0;
        for (Map.Entry<String, ToIntFunction<RefTransactions>> call : Calls.mutators().entrySet()) {
            RefTransactions x = maker.get();
            if (call.getValue().applyAsInt(x) < 0) {
                refused++;
                Check.same("with " + state + " after the refused " + call.getKey(), Stores.future(x), due);
            }
        }
        // A store that takes nearly every call would make this test an empty one.
        Check.due("enough refused calls with " + state, refused > 1000 ? 1 : 0, 1);
    }

    /** "The query methods ... never change anything", whether they answer or refuse. */
    private static void queriesChangeNothing(String state, Supplier<RefTransactions> maker) {
        RefTransactions x = maker.get();
        for (Map.Entry<String, ToIntFunction<RefTransactions>> call : Calls.queries().entrySet()) {
            String before = Check.view(x);
            int first = call.getValue().applyAsInt(x);
            Check.due(call.getKey() + " asked again", call.getValue().applyAsInt(x), first);
            Check.same("with " + state + " after " + call.getKey(), Check.view(x), before);
        }
        Check.same("with " + state + " after all queries", Stores.future(x), Stores.future(maker.get()));
    }

    /** "While the store is crashed, every call except recover() answers ERR_CRASHED and changes nothing." */
    private static void crashedStoreIsShut(String state, Supplier<RefTransactions> maker) {
        RefTransactions untouched = maker.get();
        untouched.crash();
        String due = Stores.future(untouched);
        Map<String, ToIntFunction<RefTransactions>> calls = Calls.mutators();
        calls.putAll(Calls.queries());
        calls.remove("recover()");
        RefTransactions all = maker.get();
        all.crash();
        calls.forEach((text, call) -> {
            RefTransactions x = maker.get();
            x.crash();
            Check.due("with " + state + " crashed " + text, call.applyAsInt(x), RefTransactions.ERR_CRASHED);
            Check.same("with " + state + " after the crashed " + text, Stores.future(x), due);
            Check.due("crashed again " + text, call.applyAsInt(all), RefTransactions.ERR_CRASHED);
        });
        Check.same("with " + state + " after all crashed calls", Stores.future(all), due);
    }
}
