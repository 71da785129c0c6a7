import java.lang.reflect.Field;
import java.lang.reflect.Method;
import java.lang.reflect.Modifier;
import java.util.Arrays;
import java.util.TreeSet;

/** The public face: exactly the document's constants, constructor and methods, and nothing else to be seen. */
public final class FaceTest {
    private static final String[] METHODS = {
        "begin()", "add(int, int, int, int)", "commit(int)", "abort(int)", "run(int, int)", "packStart()",
        "packRun(int)", "crash()", "recover()", "value(int)", "status(int)", "stepsDone(int)", "updateCount(int)",
        "logCount()", "logEntry(int, int)", "packProgress()"};
    private static final String[] CONSTANTS = {
        "FREE=0", "OPEN=1", "LOCKING=2", "COMMITTED=3", "DONE=4", "ABORTED_LOCKED=5", "ABORTED_MISMATCH=6",
        "ABORTED_CRASH=7", "ABORTED_USER=8", "ANY=-1", "MAX_UPDATES=4", "PACK_STEPS=3", "LOG_REF=0", "LOG_OLD=1",
        "LOG_NEW=2", "OK=0", "ERR_CRASHED=-1", "ERR_SLOT=-2", "ERR_STATE=-3", "ERR_REF=-4", "ERR_VALUE=-5",
        "ERR_FULL=-6", "ERR_DUP=-7", "ERR_EMPTY=-8", "ERR_BUSY=-9", "ERR_COUNT=-10", "ERR_INDEX=-11"};

    public static void main(String[] args) throws IllegalAccessException {
        Check.start();
        Class<?> face = RefTransactions.class;
        Check.due("modifiers of the class", face.getModifiers(), Modifier.PUBLIC | Modifier.FINAL);
        Check.due("nested classes", face.getDeclaredClasses().length, 0);
        Check.same("constructors", Arrays.toString(face.getDeclaredConstructors()),
            "[public RefTransactions(int,int,int)]");
        Check.same("methods", methods(face), sorted(METHODS));
        Check.same("constants", constants(face), sorted(CONSTANTS));
        Check.end();
    }

    private static String sorted(String[] names) {
        return new TreeSet<>(Arrays.asList(names)).toString();
    }

    private static String methods(Class<?> face) {
        TreeSet<String> seen = new TreeSet<>();
        for (Method method : face.getDeclaredMethods()) {
            if (!Modifier.isPrivate(method.getModifiers())) {
                Check.due("modifiers of " + method.getName(), method.getModifiers(), Modifier.PUBLIC);
                Check.same("answer of " + method.getName(), method.getReturnType().getName(), "int");
                String types = Arrays.toString(method.getParameterTypes());
                seen.add(method.getName() + "(" + types.substring(1, types.length() - 1) + ")");
            }
        }
        return seen.toString();
    }

    private static String constants(Class<?> face) throws IllegalAccessException {
        TreeSet<String> seen = new TreeSet<>();
        for (Field field : face.getDeclaredFields()) {
            if (!Modifier.isPrivate(field.getModifiers())) {
                Check.due("modifiers of " + field.getName(), field.getModifiers(),
                    Modifier.PUBLIC | Modifier.STATIC | Modifier.FINAL);
                Check.same("type of " + field.getName(), field.getType().getName(), "int");
                seen.add(field.getName() + "=" + field.getInt(null));
            }
        }
        return seen.toString();
    }
}
