import java.lang.reflect.Array;
import java.lang.reflect.Field;
import java.lang.reflect.Modifier;
import java.util.ArrayList;
import java.util.HashMap;
import java.util.List;
import java.util.Map;

/**
 * The words of promises 11 and 16 on every sequence of calls, for all sequences, however long, that keep to a few
 * transactions, keys and timestamps: every state that they can reach is visited, and every call is made in it.
 */
public final class SmallWorldTest {
    private static final Due due = new Due();
    private static final List<Field> FIELDS = fields();

    private final int txns;
    private final int keys;
    private final int firstTs;
    private final int lastTs;
    private final List<Call> calls = new ArrayList<>();
    private final Map<String, State> found = new HashMap<>();
    private final List<State> states = new ArrayList<>();

    private SmallWorldTest(int txns, int keys, int firstTs, int lastTs, boolean crashes) {
        this.txns = txns;
        this.keys = keys;
        this.firstTs = firstTs;
        this.lastTs = lastTs;
        for (int ts = firstTs; ts <= lastTs; ts++) {
            calls.add(Call.of(Call.Op.begin, ts));
            for (int key = 0; key < keys; key++) {
                calls.add(Call.of(Call.Op.read, key, ts));
            }
        }
        for (int txn = 0; txn < txns; txn++) {
            addCallsOn(txn, crashes);
        }
    }

    public static void main(String[] args) throws IllegalAccessException {
        new SmallWorldTest(2, 1, 1, 3, true).explore();
        new SmallWorldTest(2, 1, 999999, 1000000, true).explore();
        new SmallWorldTest(1, 2, 1, 3, true).explore();
        // Without crashes, which the other worlds have: with them four times as many states are to be visited.
        new SmallWorldTest(2, 2, 1, 2, false).explore();
        due.end();
    }

    private void addCallsOn(int txn, boolean crashes) {
        for (int i = 0; i < keys; i++) {
            calls.add(Call.of(Call.Op.addWrite, txn, i, valueOf(txn, i)));
            calls.add(Call.of(Call.Op.deliver, txn, i));
            calls.add(Call.of(Call.Op.probe, txn, i));
        }
        calls.add(Call.of(Call.Op.stage, txn));
        calls.add(Call.of(Call.Op.finalize, txn));
        calls.add(Call.of(Call.Op.rollback, txn));
        calls.add(Call.of(Call.Op.recover, txn));
        if (crashes) {
            calls.add(Call.of(Call.Op.crash, txn));
        }
    }

    // A value of its own for each write, so that a value tells whose it is.
    private int valueOf(int txn, int key) {
        return txn * keys + key;
    }

    /** What a state shows, and what some way to it has seen. */
    private final class State {
        ParallelCommit x;
        final int[] reads = new int[keys * (lastTs - firstTs + 1)];
        final int[] status = new int[txns];
        final boolean[] implicit = new boolean[txns];
        final int[] writes = new int[txns];
        final List<Integer> readsMade = new ArrayList<>();
        final List<State> next = new ArrayList<>();
        int visible = 0;
        int seen = 0;

        State(ParallelCommit x) throws IllegalAccessException {
            this.x = x;
            for (int txn = 0; txn < txns; txn++) {
                status[txn] = x.status(txn);
                implicit[txn] = x.isImplicitlyCommitted(txn);
                for (int slot = 0; slot < keys; slot++) {
                    writes[txn] += x.slotTs(txn, slot) >= 0 ? 1 : 0;
                }
            }
            ParallelCommit reader = copy(x);
            for (int i = 0; i < reads.length; i++) {
                reads[i] = reader.read(i % keys, firstTs + i / keys);
                visible |= reads[i] >= 0 ? 1 << reads[i] : 0;
            }
        }
    }

    private void explore() throws IllegalAccessException {
        stateOf(new ParallelCommit(txns));
        for (int i = 0; i < states.size(); i++) {
            State from = states.get(i);
            committedValuesShow(from);
            for (Call call : calls) {
                ParallelCommit x = copy(from.x);
                int answer = call.on(x);
                State to = stateOf(x);
                from.next.add(to);
                from.readsMade.add(readMade(call, answer));
                decisionsHold(from, call, to);
            }
            // Of the states that are done only what they show is needed, and all the objects would need much room.
            from.x = null;
        }
        readsHold();
        System.out.println(txns + " transactions, " + keys + " keys, timestamps " + firstTs + " to " + lastTs + ": "
            + states.size() + " states");
    }

    private State stateOf(ParallelCommit x) throws IllegalAccessException {
        String held = held(x);
        State state = found.get(held);
        if (state == null) {
            state = new State(x);
            found.put(held, state);
            states.add(state);
            due.is("no query changes anything", held(x).equals(held), true);
        }
        return state;
    }

    /** The bit of the read that the call was, if it answered a value or READ_NONE; 0 otherwise. */
    private int readMade(Call call, int answer) {
        boolean answered = answer >= 0 || answer == ParallelCommit.READ_NONE;
        return call.op() == Call.Op.read && answered ? 1 << ((call.b() - firstTs) * keys + call.a()) : 0;
    }

    private void committedValuesShow(State state) {
        for (int txn = 0; txn < txns; txn++) {
            int own = state.visible >> valueOf(txn, 0) & (1 << keys) - 1;
            int want = state.status[txn] == ParallelCommit.ST_COMMITTED ? state.writes[txn] : 0;
            due.is("values of " + txn + " that can be read in status " + state.status[txn], Integer.bitCount(own), want);
        }
    }

    private void decisionsHold(State from, Call call, State to) {
        for (int txn = 0; txn < txns; txn++) {
            boolean committed = to.status[txn] == ParallelCommit.ST_COMMITTED && from.status[txn] != to.status[txn];
            if (committed && !to.implicit[txn]) {
                due.tell(call + " committed " + txn + ", which is not implicitly committed");
            }
            if (to.implicit[txn] && to.status[txn] == ParallelCommit.ST_ABORTED) {
                due.tell(call + " left " + txn + " aborted and implicitly committed");
            }
            if (from.implicit[txn] && !to.implicit[txn]) {
                due.tell(call + " ended the implicit commit of " + txn);
            }
        }
        if ((from.visible & ~to.visible) != 0) {
            due.tell(call + " took a committed value back");
        }
    }

    // What some way to a state has read must hold on every way on from it, so it is carried along until nothing is new.
    private void readsHold() {
        List<State> open = new ArrayList<>(states);
        while (!open.isEmpty()) {
            State from = open.remove(open.size() - 1);
            for (int i = 0; i < calls.size(); i++) {
                State to = from.next.get(i);
                sameReads(from, calls.get(i), to);
                int seen = to.seen | from.seen | from.readsMade.get(i);
                if (seen != to.seen) {
                    to.seen = seen;
                    open.add(to);
                }
            }
        }
    }

    private void sameReads(State from, Call call, State to) {
        for (int i = 0; i < from.reads.length; i++) {
            if ((from.seen >> i & 1) == 1 && from.reads[i] != to.reads[i]) {
                due.tell("after " + call + " read(" + i % keys + ", " + (firstTs + i / keys) + ") answers " + to.reads[i]
                    + ", and it had answered " + from.reads[i]);
            }
        }
    }

    // How the state is stored is free, so the fields are taken as they come.
    private static List<Field> fields() {
        List<Field> fields = new ArrayList<>();
        for (Field field : ParallelCommit.class.getDeclaredFields()) {
            if (!Modifier.isStatic(field.getModifiers())) {
                field.setAccessible(true);
                fields.add(field);
            }
        }
        return fields;
    }

    private ParallelCommit copy(ParallelCommit x) throws IllegalAccessException {
        ParallelCommit copy = new ParallelCommit(txns);
        for (Field field : FIELDS) {
            if (field.getType().isArray()) {
                Object array = field.get(x);
                System.arraycopy(array, 0, field.get(copy), 0, Array.getLength(array));
            } else if (!Modifier.isFinal(field.getModifiers())) {
                field.set(copy, field.get(x));
            }
        }
        return copy;
    }

    // All that the object holds, as characters: short and quickly made, since it is asked for millions of times.
    private static String held(ParallelCommit x) throws IllegalAccessException {
        StringBuilder held = new StringBuilder();
        for (Field field : FIELDS) {
            Object value = field.get(x);
            if (value instanceof int[] numbers) {
                appendAll(held, numbers);
            } else if (value instanceof boolean[] flags) {
                for (boolean flag : flags) {
                    held.append(flag ? '1' : '0');
                }
            } else if (value.getClass().isArray()) {
                for (int i = 0; i < Array.getLength(value); i++) {
                    held.append(Array.get(value, i)).append(' ');
                }
            } else {
                held.append(value).append(' ');
            }
        }
        return held.toString();
    }

    // Without the zeros at the end, of which there are many; the length goes first.
    private static void appendAll(StringBuilder held, int[] numbers) {
        int end = numbers.length;
        while (end > 0 && numbers[end - 1] == 0) {
            end--;
        }
        held.append((char) end);
        for (int i = 0; i < end; i++) {
            held.append((char) (numbers[i] >>> 16)).append((char) numbers[i]);
        }
    }
}
