import java.util.Arrays;
import java.util.LinkedHashMap;
import java.util.List;
import java.util.Map;
import java.util.TreeSet;
import java.util.function.IntSupplier;

/** Counts the answers that are not the ones due, and ends a test with exit code 1 if there was one. */
final class Due {
    /**
     * Ints that are no valid txn, slot or key in any state. The powers of two become small again
     * when they are multiplied by a number of slots or of versions, or are cut to fewer bits.
     */
    static final int[] WILD = {Integer.MIN_VALUE, Integer.MIN_VALUE + 1, -1000000, -65536, -256, -17, -16, -8, -4, -1,
        16, 32, 256, 65536, 1000000, 1 << 28, 1 << 29, 1 << 30, Integer.MAX_VALUE - 1, Integer.MAX_VALUE};

    private static final int MAX_SECONDS = 300;

    private int wrong = 0;

    Due() {
        Thread guard = new Thread(Due::endWhatDoesNotEnd);
        guard.setDaemon(true);
        guard.start();
    }

    // "No call ever throws or loops": a call that loops must fail its test, not hold it up for ever.
    private static void endWhatDoesNotEnd() {
        try {
            Thread.sleep(MAX_SECONDS * 1000L);
        } catch (InterruptedException e) {
            return;
        }
        System.out.println("the test has not ended in " + MAX_SECONDS + " seconds");
        Runtime.getRuntime().halt(1);
    }

    void is(String call, int got, int want) {
        if (got != want) {
            tell(call + " answered " + got + ", due is " + want);
        }
    }

    void is(String call, boolean got, boolean want) {
        if (got != want) {
            tell(call + " answered " + got + ", due is " + want);
        }
    }

    /** The call answers want, and of all that can be seen exactly the named facts change, told as "status(0)=2". */
    void call(ParallelCommit x, String name, IntSupplier call, int want, String... changes) {
        Map<String, Integer> before = facts(x);
        is(name, call.getAsInt(), want);
        Map<String, Integer> after = facts(x);
        TreeSet<String> got = new TreeSet<>();
        for (Map.Entry<String, Integer> fact : after.entrySet()) {
            if (!fact.getValue().equals(before.get(fact.getKey()))) {
                got.add(fact.getKey() + "=" + fact.getValue());
            }
        }
        TreeSet<String> due = new TreeSet<>(List.of(changes));
        if (!got.equals(due)) {
            tell(name + " changed " + got + ", due is " + due);
        }
    }

    /** After this run on a new object the call answers want. */
    void answers(String run, String call, int want) {
        ParallelCommit x = Call.made(ParallelCommit.MAX_TXNS, Call.parse(run));
        is(call + " after " + run, Call.parse(call).get(0).on(x), want);
    }

    /** After this run on a new object the call answers code, and nothing that a later call could show has changed. */
    void refused(String run, String call, int code) {
        refused(ParallelCommit.MAX_TXNS, run, call, code);
    }

    void refused(int maxTxns, String run, String call, int code) {
        List<Call> calls = Call.parse(run);
        Call last = Call.parse(call).get(0);
        int[] before = Reveal.of(maxTxns, calls);
        is(call + " after " + run, last.on(Call.made(maxTxns, calls)), code);
        calls.add(last);
        if (!Arrays.equals(Reveal.of(maxTxns, calls), before)) {
            tell(call + " after " + run + " changed something, due is no change");
        }
    }

    /** Everything the object shows through calls that change nothing. */
    static Map<String, Integer> facts(ParallelCommit x) {
        Map<String, Integer> facts = new LinkedHashMap<>();
        for (int txn = 0; txn <= ParallelCommit.MAX_TXNS; txn++) {
            facts.put("status(" + txn + ")", x.status(txn));
            facts.put("isAlive(" + txn + ")", x.isAlive(txn) ? 1 : 0);
            facts.put("isImplicitlyCommitted(" + txn + ")", x.isImplicitlyCommitted(txn) ? 1 : 0);
            for (int slot = 0; slot <= ParallelCommit.MAX_SLOTS; slot++) {
                facts.put("slotState(" + txn + ", " + slot + ")", x.slotState(txn, slot));
                facts.put("slotTs(" + txn + ", " + slot + ")", x.slotTs(txn, slot));
            }
        }
        for (int key = 0; key < ParallelCommit.KEYS; key++) {
            facts.put("tsCache(" + key + ")", x.tsCache(key));
        }
        return facts;
    }

    /** A new transaction at ts with one write, value 100 + key, for each key. */
    static int writer(ParallelCommit x, int ts, int... keys) {
        int txn = x.begin(ts);
        for (int key : keys) {
            x.addWrite(txn, key, 100 + key);
        }
        return txn;
    }

    static void deliverAll(ParallelCommit x, int txn) {
        for (int slot = 0; slot < ParallelCommit.MAX_SLOTS; slot++) {
            x.deliver(txn, slot);
        }
    }

    /** A new transaction like writer's, brought to its commit by a live coordinator. */
    static int committed(ParallelCommit x, int ts, int... keys) {
        int txn = writer(x, ts, keys);
        x.stage(txn);
        deliverAll(x, txn);
        x.finalize(txn);
        return txn;
    }

    void tell(String fault) {
        wrong++;
        if (wrong <= 50) {
            System.out.println(fault);
        }
    }

    void end() {
        System.out.println(wrong == 0 ? "all answers are as due" : wrong + " answers are not as due");
        if (wrong != 0) {
            System.exit(1);
        }
    }
}
