import java.util.ArrayList;
import java.util.List;

/**
 * All that an object holds, shown by the answers of long endings. The queries alone don't show a slot's key and
 * value, a version, or whether a transaction was staged; what no later call can show is free.
 */
final class Reveal {
    private static final int[] TIMES = {1, 2, 3, 4, 5, 8, 9, 10, 11, 12, 13, 15, 19, 20, 21, 22, 29, 30, 31, 999999, 1000000};
    private static final List<List<Call>> ENDINGS =
        List.of(writeOn(), recoverAll(), readFirst(), finishAll(), commitUpwards(), commitDownwards());
    private static final int LENGTH = ENDINGS.stream().mapToInt(List::size).sum();

    private Reveal() {
    }

    /** What an object shows that is made with maxTxns and then has had this run of calls. */
    static int[] of(int maxTxns, List<Call> run) {
        int[] answers = new int[LENGTH];
        int n = 0;
        for (List<Call> ending : ENDINGS) {
            ParallelCommit x = Call.made(maxTxns, run);
            for (Call call : ending) {
                answers[n++] = call.on(x);
            }
        }
        return answers;
    }

    /** The same, as the model has it. */
    static int[] ofModel(int maxTxns, List<Call> run) {
        int[] answers = new int[LENGTH];
        int n = 0;
        for (List<Call> ending : ENDINGS) {
            Model model = Call.model(maxTxns, run);
            for (Call call : ending) {
                answers[n++] = call.on(model);
            }
        }
        return answers;
    }

    private static List<Call> writeOn() {
        List<Call> calls = queries();
        for (int txn = 0; txn <= 8; txn++) {
            for (int key = 15; key >= 0; key--) {
                calls.add(Call.of(Call.Op.addWrite, txn, key, 500 + 16 * txn + key));
            }
            calls.add(Call.of(Call.Op.begin, 7));
        }
        calls.addAll(perTxn(Call.Op.stage));
        calls.addAll(perSlot(Call.Op.deliver));
        calls.addAll(queries());
        calls.addAll(perTxn(Call.Op.finalize));
        calls.addAll(queries());
        calls.addAll(reads());
        return calls;
    }

    private static List<Call> recoverAll() {
        List<Call> calls = perSlot(Call.Op.deliver);
        calls.addAll(queries());
        calls.addAll(perTxn(Call.Op.recover));
        calls.addAll(queries());
        calls.addAll(perTxn(Call.Op.crash));
        calls.addAll(reads());
        return calls;
    }

    private static List<Call> readFirst() {
        List<Call> calls = reads();
        calls.addAll(queries());
        calls.addAll(perSlot(Call.Op.probe));
        calls.addAll(perTxn(Call.Op.recover));
        calls.addAll(reads());
        return calls;
    }

    private static List<Call> finishAll() {
        List<Call> calls = perTxn(Call.Op.stage);
        calls.addAll(perTxn(Call.Op.finalize));
        calls.addAll(perTxn(Call.Op.rollback));
        calls.addAll(perSlot(Call.Op.probe));
        calls.addAll(queries());
        calls.addAll(perTxn(Call.Op.recover));
        calls.addAll(reads());
        return calls;
    }

    // One after the other, so that a transaction's values aren't hidden by another's intent; both ways round,
    // since a commit pushes what comes below it.
    private static List<Call> commitUpwards() {
        List<Call> calls = new ArrayList<>();
        for (int txn = 0; txn < 8; txn++) {
            calls.addAll(commit(txn));
        }
        calls.addAll(reads());
        return calls;
    }

    private static List<Call> commitDownwards() {
        List<Call> calls = new ArrayList<>();
        for (int txn = 7; txn >= 0; txn--) {
            calls.addAll(commit(txn));
        }
        calls.addAll(reads());
        return calls;
    }

    private static List<Call> commit(int txn) {
        List<Call> calls = new ArrayList<>();
        calls.add(Call.of(Call.Op.stage, txn));
        for (int slot = 0; slot < 4; slot++) {
            calls.add(Call.of(Call.Op.deliver, txn, slot));
        }
        calls.add(Call.of(Call.Op.recover, txn));
        return calls;
    }

    private static List<Call> queries() {
        List<Call> calls = perTxn(Call.Op.status);
        calls.addAll(perTxn(Call.Op.isAlive));
        calls.addAll(perTxn(Call.Op.isImplicitlyCommitted));
        calls.addAll(perSlot(Call.Op.slotState));
        calls.addAll(perSlot(Call.Op.slotTs));
        for (int key = 0; key < 16; key++) {
            calls.add(Call.of(Call.Op.tsCache, key));
        }
        return calls;
    }

    private static List<Call> perTxn(Call.Op op) {
        List<Call> calls = new ArrayList<>();
        for (int txn = 0; txn <= 8; txn++) {
            calls.add(Call.of(op, txn));
        }
        return calls;
    }

    private static List<Call> perSlot(Call.Op op) {
        List<Call> calls = new ArrayList<>();
        for (int txn = 0; txn <= 8; txn++) {
            for (int slot = 0; slot <= 4; slot++) {
                calls.add(Call.of(op, txn, slot));
            }
        }
        return calls;
    }

    private static List<Call> reads() {
        List<Call> calls = new ArrayList<>();
        for (int key = 0; key < 16; key++) {
            for (int ts : TIMES) {
                calls.add(Call.of(Call.Op.read, key, ts));
            }
        }
        return calls;
    }
}
