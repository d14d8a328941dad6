/** Promise 11: read. The words on later reads are tested over generated runs in SequencesTest, too. */
public final class ReadTest {
    private static final Due due = new Due();

    public static void main(String[] args) {
        refusesWrongArguments();
        raisesTheCacheOnlyUpwards();
        isBlockedFromTheIntentOn();
        readsTheLastVersion();
        readsEightVersions();
        answersTheSameAgain();
        due.end();
    }

    private static void refusesWrongArguments() {
        ParallelCommit x = new ParallelCommit(8);
        for (int wild : Due.WILD) {
            due.call(x, "read(" + wild + ", 5)", () -> x.read(wild, 5), ParallelCommit.ERR_ARG);
        }
        for (int ts : new int[] {Integer.MIN_VALUE, -1, 0, 1000001, Integer.MAX_VALUE}) {
            due.call(x, "read(0, " + ts + ")", () -> x.read(0, ts), ParallelCommit.ERR_ARG);
        }
        Due.writer(x, 1, 0);
        x.deliver(0, 0);
        due.call(x, "read(0, 1000001) on an intent", () -> x.read(0, 1000001), ParallelCommit.ERR_ARG);
    }

    private static void raisesTheCacheOnlyUpwards() {
        ParallelCommit x = new ParallelCommit(8);
        due.call(x, "read(0, 1)", () -> x.read(0, 1), ParallelCommit.READ_NONE, "tsCache(0)=1");
        due.call(x, "read(15, 1000000)", () -> x.read(15, 1000000), ParallelCommit.READ_NONE, "tsCache(15)=1000000");
        due.call(x, "read(0, 7)", () -> x.read(0, 7), ParallelCommit.READ_NONE, "tsCache(0)=7");
        due.call(x, "read(0, 7) again", () -> x.read(0, 7), ParallelCommit.READ_NONE);
        due.call(x, "read(0, 3)", () -> x.read(0, 3), ParallelCommit.READ_NONE);
    }

    private static void isBlockedFromTheIntentOn() {
        ParallelCommit x = new ParallelCommit(8);
        Due.writer(x, 10, 4, 5);
        due.call(x, "read(4, 2), the write under way", () -> x.read(4, 2), ParallelCommit.READ_NONE, "tsCache(4)=2");
        x.deliver(0, 0);
        due.call(x, "read(4, 9)", () -> x.read(4, 9), ParallelCommit.READ_NONE, "tsCache(4)=9");
        due.call(x, "read(4, 10)", () -> x.read(4, 10), ParallelCommit.READ_BLOCKED);
        due.call(x, "read(4, 1000000)", () -> x.read(4, 1000000), ParallelCommit.READ_BLOCKED);
        x.crash(0);
        due.call(x, "read(4, 10), dead", () -> x.read(4, 10), ParallelCommit.READ_BLOCKED);
        due.call(x, "read(5, 10), not delivered", () -> x.read(5, 10), ParallelCommit.READ_NONE,
            "tsCache(5)=10", "slotState(0, 1)=2");
        due.is("deliver(0, 1)", x.deliver(0, 1), ParallelCommit.SLOT_PUSHED);
        due.is("read(5, 10), pushed to 11", x.read(5, 10), ParallelCommit.READ_NONE);
        due.is("read(5, 11), pushed to 11", x.read(5, 11), ParallelCommit.READ_BLOCKED);
        x.recover(0);
        due.is("read(5, 11) after the abort", x.read(5, 11), ParallelCommit.READ_NONE);
        due.is("read(4, 10) after the abort", x.read(4, 10), ParallelCommit.READ_NONE);
    }

    private static void readsTheLastVersion() {
        ParallelCommit x = new ParallelCommit(8);
        int[] values = {0, 32767, 7};
        for (int i = 0; i < 3; i++) {
            int txn = x.begin(10 * (i + 1));
            x.addWrite(txn, 2, values[i]);
            x.addWrite(txn, 3 + i, 1);
            x.stage(txn);
            Due.deliverAll(x, txn);
            x.finalize(txn);
        }
        for (int ts = 1; ts <= 45; ts++) {
            int want = ts < 10 ? ParallelCommit.READ_NONE : values[ts < 20 ? 0 : ts < 30 ? 1 : 2];
            due.is("read(2, " + ts + ")", x.read(2, ts), want);
        }
        due.is("read(3, 9)", x.read(3, 9), ParallelCommit.READ_NONE);
        due.is("read(4, 19)", x.read(4, 19), ParallelCommit.READ_NONE);
        due.is("read(4, 20)", x.read(4, 20), 1);
    }

    private static void readsEightVersions() {
        for (int key = 0; key < 16; key++) {
            ParallelCommit x = new ParallelCommit(8);
            for (int txn = 0; txn < 8; txn++) {
                x.begin(100 + txn);
                x.addWrite(txn, key, 1000 + txn);
                x.addWrite(txn, 15 - key, 2000 + txn);
                x.stage(txn);
                Due.deliverAll(x, txn);
                due.is("finalize(" + txn + ")", x.finalize(txn), ParallelCommit.ST_COMMITTED);
            }
            for (int txn = 7; txn >= 0; txn--) {
                due.is("read(" + key + ", " + (100 + txn) + ")", x.read(key, 100 + txn), 1000 + txn);
                due.is("read(" + (15 - key) + ", " + (100 + txn) + ")", x.read(15 - key, 100 + txn), 2000 + txn);
            }
            due.is("read(" + key + ", 99)", x.read(key, 99), ParallelCommit.READ_NONE);
        }
    }

    private static void answersTheSameAgain() {
        ParallelCommit x = new ParallelCommit(8);
        Due.committed(x, 10, 1);
        due.is("read(1, 20)", x.read(1, 20), 101);
        Due.writer(x, 15, 1);
        x.stage(1);
        due.is("deliver(1, 0) below the read", x.deliver(1, 0), ParallelCommit.SLOT_PUSHED);
        due.is("read(1, 20) with an intent above", x.read(1, 20), 101);
        due.is("finalize(1)", x.finalize(1), ParallelCommit.ST_ABORTED);
        due.is("read(1, 20) after the abort", x.read(1, 20), 101);
        int txn = x.begin(21);
        x.addWrite(txn, 1, 5);
        x.stage(txn);
        x.deliver(txn, 0);
        due.is("recover above the read", x.recover(txn), ParallelCommit.ST_COMMITTED);
        due.is("read(1, 20) after a commit above", x.read(1, 20), 101);
        due.is("read(1, 21)", x.read(1, 21), 5);
    }
}
