import java.util.ArrayList;
import java.util.Arrays;
import java.util.List;

/**
 * "Arguments and refusals": every call with ordinary, edge and wild ints in states of every kind. No call throws;
 * the first condition that holds gives the answer; a refused call and a query change nothing; and what another
 * call changes is what the model changes.
 */
public final class AnyIntsTest {
    private static final Due due = new Due();

    private static final int[] TXNS = {Integer.MIN_VALUE, -1, 0, 1, 2, 3, 4, 5, 6, 7, 8, 1 << 29, 1 << 30, Integer.MAX_VALUE};
    private static final int[] SLOTS = {Integer.MIN_VALUE, -28, -4, -1, 0, 1, 2, 3, 4, 5, 8, 32, 1 << 30, Integer.MAX_VALUE};
    private static final int[] KEYS = {Integer.MIN_VALUE, -1, 0, 1, 2, 3, 4, 5, 7, 10, 14, 15, 16, 1 << 29, Integer.MAX_VALUE};
    private static final int[] VALUES = {-1, 0, 32767, 32768};
    private static final int[] TIMES = {Integer.MIN_VALUE, -1, 0, 1, 9, 10, 11, 20, 999999, 1000000, 1000001, Integer.MAX_VALUE};

    private static final String FOUR =
        "begin(10); addWrite(0, 0, 100); addWrite(0, 5, 101); addWrite(0, 10, 102); addWrite(0, 15, 103)";
    private static final String MIXED = FOUR + "; read(5, 10); read(15, 12); deliver(0, 0); deliver(0, 1)";
    private static final String LAST = "begin(1); begin(2); begin(3); begin(4); begin(5); begin(8); begin(9); begin(10); "
        + "addWrite(7, 12, 1); addWrite(7, 13, 2); addWrite(7, 14, 3); addWrite(7, 15, 4)";
    private static final String EDGE = "read(3, 1000000); begin(1000000); addWrite(0, 3, 32767); addWrite(0, 15, 0); "
        + "begin(1); addWrite(1, 3, 5); addWrite(1, 0, 6)";

    /** The statuses and kinds of slot, alive and dead, at both ends of the ids, the slots, the keys and the times. */
    private static final String[] STATES = {
        "",
        "begin(10)",
        "begin(10); crash(0)",
        "begin(10); rollback(0)",
        "begin(10); addWrite(0, 15, 7)",
        FOUR,
        FOUR + "; crash(0)",
        FOUR + "; stage(0)",
        FOUR + "; stage(0); probe(0, 3)",
        FOUR + "; rollback(0)",
        MIXED,
        MIXED + "; crash(0)",
        MIXED + "; stage(0)",
        MIXED + "; stage(0); crash(0)",
        MIXED + "; stage(0); recover(0)",
        MIXED + "; recover(0)",
        Mix.run("AAAA"),
        Mix.run("AAAA") + "; stage(0)",
        Mix.run("AAAA") + "; stage(0); crash(0)",
        Mix.run("AAAA") + "; stage(0); finalize(0)",
        Mix.run("AAAA") + "; stage(0); crash(0); recover(0)",
        Mix.run("AAAA") + "; rollback(0)",
        Mix.run("AAAP") + "; stage(0)",
        Mix.run("AAAP") + "; stage(0); finalize(0)",
        LAST,
        LAST + "; deliver(7, 3); deliver(7, 2); stage(7)",
        LAST + "; deliver(7, 3); deliver(7, 2); deliver(7, 1); deliver(7, 0); stage(7); crash(7)",
        LAST + "; deliver(7, 3); deliver(7, 2); deliver(7, 1); deliver(7, 0); stage(7); finalize(7); crash(6)",
        LAST + "; addWrite(0, 5, 9); addWrite(1, 6, 8); deliver(1, 0); rollback(0); crash(1); stage(7); deliver(7, 3)",
        EDGE,
        EDGE + "; deliver(0, 0); deliver(0, 1); stage(0)",
        EDGE + "; deliver(1, 1); deliver(0, 1); stage(1); probe(1, 0); crash(1)",
        versions(),
        manyWriters(),
        manyWriters() + "; deliver(3, 0); stage(3); stage(5); crash(5)",
        everyStatus()};

    public static void main(String[] args) {
        for (String state : STATES) {
            everyCallIn(ParallelCommit.MAX_TXNS, state);
        }
        everyCallIn(1, "");
        everyCallIn(1, "begin(10); addWrite(0, 15, 7)");
        everyCallIn(2, "begin(10); addWrite(0, 15, 7); deliver(0, 0); begin(20); addWrite(1, 15, 8); stage(1)");
        due.end();
    }

    private static void everyCallIn(int maxTxns, String state) {
        List<Call> run = Call.parse(state);
        int[] before = Reveal.of(maxTxns, run);
        if (!Arrays.equals(before, Reveal.ofModel(maxTxns, run))) {
            due.tell("what the object shows is not as due after " + state);
        }
        for (Call call : everyCall()) {
            try {
                oneCall(maxTxns, run, before, call);
            } catch (RuntimeException e) {
                due.tell(call + " threw " + e + " after " + state);
            }
        }
        try {
            queriesChangeNothing(maxTxns, run, before);
        } catch (RuntimeException e) {
            due.tell("a query threw " + e + " after " + state);
        }
    }

    private static void oneCall(int maxTxns, List<Call> run, int[] before, Call call) {
        int want = call.on(Call.model(maxTxns, run));
        due.is(call + " after " + run, call.on(Call.made(maxTxns, run)), want);
        List<Call> longer = new ArrayList<>(run);
        longer.add(call);
        boolean refused = want < 0 && want != ParallelCommit.READ_NONE;
        int[] expected = refused ? before : Reveal.ofModel(maxTxns, longer);
        if (!Arrays.equals(Reveal.of(maxTxns, longer), expected)) {
            due.tell(call + " after " + run + (refused ? " changed something, due is no change" : " changed not what is due"));
        }
    }

    private static void queriesChangeNothing(int maxTxns, List<Call> run, int[] before) {
        Model model = Call.model(maxTxns, run);
        ParallelCommit x = Call.made(maxTxns, run);
        List<Call> longer = new ArrayList<>(run);
        for (Call query : everyQuery()) {
            due.is(query + " after " + run, query.on(x), query.on(model));
            longer.add(query);
        }
        if (!Arrays.equals(Reveal.of(maxTxns, longer), before)) {
            due.tell("the queries changed something after " + run);
        }
    }

    private static List<Call> everyCall() {
        List<Call> calls = new ArrayList<>();
        for (int ts : TIMES) {
            calls.add(Call.of(Call.Op.begin, ts));
            for (int key : KEYS) {
                calls.add(Call.of(Call.Op.read, key, ts));
            }
        }
        for (int txn : TXNS) {
            for (Call.Op op : List.of(Call.Op.stage, Call.Op.finalize, Call.Op.rollback, Call.Op.crash, Call.Op.recover)) {
                calls.add(Call.of(op, txn));
            }
            for (int slot : SLOTS) {
                calls.add(Call.of(Call.Op.deliver, txn, slot));
                calls.add(Call.of(Call.Op.probe, txn, slot));
            }
            for (int key : KEYS) {
                for (int value : VALUES) {
                    calls.add(Call.of(Call.Op.addWrite, txn, key, value));
                }
            }
        }
        return calls;
    }

    private static List<Call> everyQuery() {
        List<Call> calls = new ArrayList<>();
        for (int txn : TXNS) {
            for (Call.Op op : List.of(Call.Op.status, Call.Op.isAlive, Call.Op.isImplicitlyCommitted)) {
                calls.add(Call.of(op, txn));
            }
            for (int slot : SLOTS) {
                calls.add(Call.of(Call.Op.slotState, txn, slot));
                calls.add(Call.of(Call.Op.slotTs, txn, slot));
            }
        }
        for (int key : KEYS) {
            calls.add(Call.of(Call.Op.tsCache, key));
        }
        return calls;
    }

    /** Eight commits, so that the keys 0 and 15 have as many versions as can be. */
    private static String versions() {
        StringBuilder run = new StringBuilder();
        for (int txn = 0; txn < 8; txn++) {
            run.append("begin(" + (8 + txn) + "); addWrite(" + txn + ", 0, " + txn + "); addWrite(" + txn + ", 15, " + (20 + txn)
                + "); deliver(" + txn + ", 0); deliver(" + txn + ", 1); stage(" + txn + "); finalize(" + txn + "); ");
        }
        return run.toString();
    }

    /** Eight transactions that all write key 3. */
    private static String manyWriters() {
        StringBuilder run = new StringBuilder();
        for (int txn = 0; txn < 8; txn++) {
            run.append("begin(" + (13 - txn) + "); addWrite(" + txn + ", 3, " + txn + "); ");
        }
        return run.toString();
    }

    /** A transaction of each status, with slots on the same keys. */
    private static String everyStatus() {
        return "begin(4); addWrite(0, 0, 40); addWrite(0, 2, 41); deliver(0, 0); deliver(0, 1); stage(0); finalize(0); "
            + "begin(9); addWrite(1, 2, 50); addWrite(1, 3, 51); deliver(1, 0); rollback(1); "
            + "begin(11); addWrite(2, 0, 60); addWrite(2, 4, 61); deliver(2, 0); stage(2); "
            + "begin(3); addWrite(3, 4, 70); addWrite(3, 0, 71); addWrite(3, 14, 72); addWrite(3, 15, 73); deliver(3, 2); "
            + "begin(12); addWrite(4, 10, 80); addWrite(4, 14, 81); deliver(4, 0); stage(4); crash(4); "
            + "begin(20); read(7, 20)";
    }
}
