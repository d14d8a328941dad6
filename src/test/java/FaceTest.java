import java.lang.reflect.Constructor;
import java.lang.reflect.Field;
import java.lang.reflect.Method;
import java.lang.reflect.Modifier;
import java.util.TreeSet;

/** The public face: the names, types and values of the document, and no other member that can be seen. */
public final class FaceTest {
    private static final String[] CONSTANTS = {
        "KEYS=16", "SHARDS=4", "MAX_SLOTS=4", "MAX_TXNS=8", "MAX_TS=1000000", "MAX_VALUE=32767",
        "OK=0", "ERR_NO_TXN=-1", "ERR_STATE=-2", "ERR_DEAD=-3", "ERR_ARG=-4", "ERR_FULL=-5",
        "ERR_DUP=-6", "ERR_BUSY=-7", "ERR_NOT_READY=-8", "READ_NONE=-9", "READ_BLOCKED=-10",
        "ST_FREE=0", "ST_PENDING=1", "ST_STAGING=2", "ST_COMMITTED=3", "ST_ABORTED=4",
        "SLOT_INFLIGHT=1", "SLOT_PREVENTED=2", "SLOT_AT_TS=3", "SLOT_PUSHED=4"};

    private static final String[] METHODS = {
        "int begin(int)", "int addWrite(int,int,int)", "int stage(int)", "int deliver(int,int)",
        "int finalize(int)", "int rollback(int)", "int crash(int)", "int probe(int,int)", "int recover(int)",
        "int read(int,int)", "int status(int)", "boolean isAlive(int)", "int slotState(int,int)",
        "int slotTs(int,int)", "boolean isImplicitlyCommitted(int)", "int tsCache(int)"};

    public static void main(String[] args) throws IllegalAccessException {
        Due due = new Due();
        Class<ParallelCommit> c = ParallelCommit.class;
        due.is("the class's modifiers", c.getModifiers(), Modifier.PUBLIC | Modifier.FINAL);
        due.is("nested classes", c.getDeclaredClasses().length, 0);
        same(due, "constants", constants(due, c), CONSTANTS);
        same(due, "methods", methods(due, c), METHODS);
        TreeSet<String> constructors = new TreeSet<>();
        for (Constructor<?> constructor : c.getDeclaredConstructors()) {
            constructors.add(constructor.toString());
        }
        same(due, "constructors", constructors, "public ParallelCommit(int)");
        due.end();
    }

    private static TreeSet<String> constants(Due due, Class<?> c) throws IllegalAccessException {
        TreeSet<String> found = new TreeSet<>();
        for (Field field : c.getDeclaredFields()) {
            int modifiers = field.getModifiers();
            if (Modifier.isPrivate(modifiers)) {
                continue;
            }
            due.is(field.getName() + "'s modifiers", modifiers, Modifier.PUBLIC | Modifier.STATIC | Modifier.FINAL);
            due.is(field.getName() + " is an int", field.getType() == int.class, true);
            found.add(field.getName() + "=" + field.get(null));
        }
        return found;
    }

    private static TreeSet<String> methods(Due due, Class<?> c) {
        TreeSet<String> found = new TreeSet<>();
        for (Method method : c.getDeclaredMethods()) {
            if (Modifier.isPrivate(method.getModifiers())) {
                continue;
            }
            due.is(method.getName() + "'s modifiers", method.getModifiers(), Modifier.PUBLIC);
            String whole = method.toString();
            found.add(whole.replace("public ", "").replace("ParallelCommit.", ""));
        }
        return found;
    }

    private static void same(Due due, String what, TreeSet<String> got, String... want) {
        TreeSet<String> all = new TreeSet<>(java.util.List.of(want));
        if (!got.equals(all)) {
            due.tell(what + " are " + got + ", due is " + all);
        }
    }
}
