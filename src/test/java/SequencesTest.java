import java.util.ArrayList;
import java.util.LinkedHashMap;
import java.util.List;
import java.util.Map;

/** All promises over generated runs of calls, and the words of promises 11 and 16 on every sequence of calls. */
public final class SequencesTest {
    private static final Due due = new Due();
    private static final int RUNS = 6000;
    private static final int CALLS = 90;
    private static final int[] EDGES = {Integer.MIN_VALUE, Integer.MIN_VALUE + 3, -1000000, -5, -4, -3, -2, -1, 0, 1, 2,
        3, 4, 5, 7, 8, 9, 15, 16, 17, 31, 32, 32767, 32768, 999999, 1000000, 1000001, 1 << 28, 1 << 29, 1 << 30,
        Integer.MAX_VALUE - 1, Integer.MAX_VALUE};

    private final long firstSeed;
    private long seed;
    private final ParallelCommit x;
    private final Model model;
    private final int keys;
    private final int timestamps;
    private final int base;
    private final List<String> calls = new ArrayList<>();
    private final Map<Long, Integer> seen = new LinkedHashMap<>();
    private final int[] statusBefore = new int[8];
    private final boolean[] implicitBefore = new boolean[8];
    private boolean told = false;

    private SequencesTest(long firstSeed) {
        this.firstSeed = firstSeed;
        seed = firstSeed * 7919 + 17;
        int maxTxns = below(4) == 0 ? edge() : 8;
        x = new ParallelCommit(maxTxns);
        model = new Model(maxTxns);
        keys = 1 + below(below(2) == 0 ? 3 : 16);
        timestamps = 2 + below(30);
        base = below(4) == 0 ? 1000000 - timestamps : 0;
    }

    public static void main(String[] args) {
        for (int run = 0; run < RUNS; run++) {
            new SequencesTest(run).run();
        }
        due.end();
    }

    // A generator of its own, so that every machine sees the same runs.
    private int below(int bound) {
        seed = seed * 6364136223846793005L + 1442695040888963407L;
        return (int) ((seed >>> 33) % bound);
    }

    private int edge() {
        return EDGES[below(EDGES.length)];
    }

    private int txn() {
        return below(30) == 0 ? edge() : below(8);
    }

    private int slot() {
        return below(30) == 0 ? edge() : below(4);
    }

    private int key() {
        return below(30) == 0 ? edge() : below(keys);
    }

    private int ts() {
        return below(30) == 0 ? edge() : base + 1 + below(timestamps);
    }

    private int value() {
        return below(10) == 0 ? edge() : below(32768);
    }

    private void run() {
        for (int i = 0; i < CALLS && !told; i++) {
            remember();
            oneCall();
            sameFacts();
            decisionsHold();
        }
        readAgain();
        readAll();
    }

    private void oneCall() {
        int t = txn();
        int s = slot();
        switch (below(32)) {
            case 0, 1, 2, 3 -> { int a = ts(); same("begin(" + a + ")", x.begin(a), model.begin(a)); }
            case 4, 5, 6, 7, 8, 9, 10 -> {
                int k = key();
                int v = value();
                same("addWrite(" + t + ", " + k + ", " + v + ")", x.addWrite(t, k, v), model.addWrite(t, k, v));
            }
            case 11, 12, 13 -> same("stage(" + t + ")", x.stage(t), model.stage(t));
            case 14, 15, 16, 17, 18, 19, 20, 21 ->
                same("deliver(" + t + ", " + s + ")", x.deliver(t, s), model.deliver(t, s));
            case 22, 23, 24 -> same("finalize(" + t + ")", x.finalize(t), model.finalize(t));
            case 25 -> maybeRare(t);
            case 26 -> same("probe(" + t + ", " + s + ")", x.probe(t, s), model.probe(t, s));
            case 27 -> same("recover(" + t + ")", x.recover(t), model.recover(t));
            case 28 -> readAgain();
            case 29 -> query(t, s);
            default -> { int k = key(); int a = ts(); readOnce(k, a); }
        }
    }

    private void maybeRare(int t) {
        if (below(2) == 0) {
            same("rollback(" + t + ")", x.rollback(t), model.rollback(t));
        } else {
            same("crash(" + t + ")", x.crash(t), model.crash(t));
        }
    }

    private void query(int t, int s) {
        int a = edge();
        int b = edge();
        same("status(" + a + ")", x.status(a), model.status(a));
        same("isAlive(" + a + ")", x.isAlive(a) ? 1 : 0, model.isAlive(a) ? 1 : 0);
        same("slotState(" + t + ", " + b + ")", x.slotState(t, b), model.slotState(t, b));
        same("slotState(" + a + ", " + s + ")", x.slotState(a, s), model.slotState(a, s));
        same("slotTs(" + t + ", " + b + ")", x.slotTs(t, b), model.slotTs(t, b));
        same("slotTs(" + a + ", " + s + ")", x.slotTs(a, s), model.slotTs(a, s));
        same("isImplicitlyCommitted(" + a + ")", x.isImplicitlyCommitted(a) ? 1 : 0, model.isImplicitlyCommitted(a) ? 1 : 0);
        same("tsCache(" + a + ")", x.tsCache(a), model.tsCache(a));
    }

    private void readOnce(int k, int ts) {
        int got = x.read(k, ts);
        same("read(" + k + ", " + ts + ")", got, model.read(k, ts));
        if (got >= 0 || got == ParallelCommit.READ_NONE) {
            Integer earlier = seen.putIfAbsent((long) k << 32 | ts, got);
            if (earlier != null && earlier != got) {
                fault("read(" + k + ", " + ts + ") answered " + got + " after " + earlier);
            }
        }
    }

    private void readAgain() {
        for (Map.Entry<Long, Integer> entry : new ArrayList<>(seen.entrySet())) {
            int k = (int) (entry.getKey() >> 32);
            int ts = (int) (long) entry.getKey();
            int got = x.read(k, ts);
            if (got != entry.getValue()) {
                fault("read(" + k + ", " + ts + ") answered " + got + " after " + entry.getValue());
            }
            same("read(" + k + ", " + ts + ") again", got, model.read(k, ts));
        }
    }

    // From high to low, so that what a call hid in a version list shows itself at last.
    private void readAll() {
        for (int k = 0; k < 16 && !told; k++) {
            for (int ts = base + timestamps; ts > base; ts--) {
                readOnce(k, ts);
            }
        }
        readAgain();
    }

    private void remember() {
        for (int t = 0; t < 8; t++) {
            statusBefore[t] = x.status(t);
            implicitBefore[t] = x.isImplicitlyCommitted(t);
        }
    }

    private void decisionsHold() {
        for (int t = 0; t < 8; t++) {
            int status = x.status(t);
            boolean implicit = x.isImplicitlyCommitted(t);
            boolean changed = status != statusBefore[t];
            if (changed && statusBefore[t] >= ParallelCommit.ST_COMMITTED) {
                fault("status(" + t + ") was decided and changed to " + status);
            }
            if (changed && status == ParallelCommit.ST_COMMITTED && !implicit) {
                fault("status(" + t + ") became committed, but not implicitly");
            }
            if (implicit && status == ParallelCommit.ST_ABORTED) {
                fault("status(" + t + ") is aborted, but implicitly committed");
            }
            if (implicitBefore[t] && !implicit) {
                fault("isImplicitlyCommitted(" + t + ") was true and is false");
            }
        }
    }

    private void sameFacts() {
        for (int t = -1; t <= 8; t++) {
            if (x.status(t) != model.status(t) || x.isAlive(t) != model.isAlive(t)
                    || x.isImplicitlyCommitted(t) != model.isImplicitlyCommitted(t)) {
                fault("status, isAlive or isImplicitlyCommitted of " + t + " is not as due");
            }
            for (int s = -1; s <= 4; s++) {
                if (x.slotState(t, s) != model.slotState(t, s) || x.slotTs(t, s) != model.slotTs(t, s)) {
                    fault("slotState or slotTs of (" + t + ", " + s + ") is not as due");
                }
            }
        }
        for (int k = -1; k <= 16; k++) {
            if (x.tsCache(k) != model.tsCache(k)) {
                fault("tsCache(" + k + ") answered " + x.tsCache(k) + ", due is " + model.tsCache(k));
            }
            if (k >= 0 && k < 16 && model.intentCount(k) > 1) {
                fault("the model has two intents on key " + k);
            }
        }
    }

    private void same(String call, int got, int want) {
        calls.add(call + " = " + got);
        if (got != want) {
            fault(call + " answered " + got + ", due is " + want);
        }
    }

    // One fault a run is enough: what follows it is mostly its echo.
    private void fault(String what) {
        if (!told) {
            told = true;
            due.tell("run " + firstSeed + ": " + what + ", after " + calls);
        }
    }
}
