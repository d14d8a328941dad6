/** Promise 1: the clamp of maxTxns, and the state at the start. */
public final class ConstructionTest {
    private static final Due due = new Due();

    public static void main(String[] args) {
        for (int n = 1; n <= 8; n++) {
            clamps(n, n);
        }
        for (int n : new int[] {Integer.MIN_VALUE, Integer.MIN_VALUE + 1, -8, -1, 0}) {
            clamps(n, 1);
        }
        for (int n : new int[] {9, 16, 1000000, Integer.MAX_VALUE - 1, Integer.MAX_VALUE}) {
            clamps(n, 8);
        }
        for (int n : new int[] {Integer.MIN_VALUE, 0, 1, 2, 7, 8, 9, Integer.MAX_VALUE}) {
            startsEmpty(n);
            startsWithoutAnIntent(n);
        }
        objectsAreApart();
        due.end();
    }

    private static void clamps(int maxTxns, int want) {
        ParallelCommit x = new ParallelCommit(maxTxns);
        for (int i = 0; i < want; i++) {
            due.is("maxTxns " + maxTxns + ": begin " + i, x.begin(5), i);
        }
        due.is("maxTxns " + maxTxns + ": one begin too many", x.begin(5), ParallelCommit.ERR_FULL);
        due.refused(maxTxns, "begin(5); ".repeat(want), "begin(5)", ParallelCommit.ERR_FULL);
        due.is("maxTxns " + maxTxns + ": status of the last", x.status(want - 1), ParallelCommit.ST_PENDING);
        due.is("maxTxns " + maxTxns + ": status beyond", x.status(want), ParallelCommit.ST_FREE);
    }

    private static void startsEmpty(int maxTxns) {
        ParallelCommit x = new ParallelCommit(maxTxns);
        for (int txn = -2; txn < 10; txn++) {
            noTxn(x, txn);
        }
        for (int txn : Due.WILD) {
            noTxn(x, txn);
        }
        for (int key = 0; key < 16; key++) {
            due.is("tsCache(" + key + ") at the start", x.tsCache(key), 0);
            due.is("read(" + key + ", 1000000) at the start", x.read(key, 1000000), ParallelCommit.READ_NONE);
        }
    }

    private static void noTxn(ParallelCommit x, int txn) {
        String at = " of txn " + txn + " at the start";
        due.is("addWrite" + at, x.addWrite(txn, 0, 0), ParallelCommit.ERR_NO_TXN);
        due.is("stage" + at, x.stage(txn), ParallelCommit.ERR_NO_TXN);
        due.is("deliver" + at, x.deliver(txn, 0), ParallelCommit.ERR_NO_TXN);
        due.is("finalize" + at, x.finalize(txn), ParallelCommit.ERR_NO_TXN);
        due.is("rollback" + at, x.rollback(txn), ParallelCommit.ERR_NO_TXN);
        due.is("crash" + at, x.crash(txn), ParallelCommit.ERR_NO_TXN);
        due.is("probe" + at, x.probe(txn, 0), ParallelCommit.ERR_NO_TXN);
        due.is("recover" + at, x.recover(txn), ParallelCommit.ERR_NO_TXN);
        due.is("status" + at, x.status(txn), ParallelCommit.ST_FREE);
        due.is("isAlive" + at, x.isAlive(txn), false);
        due.is("slotState" + at, x.slotState(txn, 0), ParallelCommit.ERR_NO_TXN);
        due.is("slotTs" + at, x.slotTs(txn, 0), ParallelCommit.ERR_NO_TXN);
        due.is("isImplicitlyCommitted" + at, x.isImplicitlyCommitted(txn), false);
    }

    private static void objectsAreApart() {
        ParallelCommit one = new ParallelCommit(8);
        ParallelCommit other = new ParallelCommit(8);
        Due.committed(one, 10, 3);
        due.is("read(3, 20) of the other object", other.read(3, 20), ParallelCommit.READ_NONE);
        due.is("tsCache(3) of the first object", one.tsCache(3), 0);
        due.is("status(0) of the other object", other.status(0), ParallelCommit.ST_FREE);
    }

    private static void startsWithoutAnIntent(int maxTxns) {
        for (int key = 0; key < 16; key++) {
            ParallelCommit x = new ParallelCommit(maxTxns);
            Due.writer(x, 1, key);
            due.is("the first delivery on key " + key, x.deliver(0, 0), ParallelCommit.SLOT_AT_TS);
        }
    }
}
