/** Promise 2: begin. */
public final class BeginTest {
    private static final Due due = new Due();

    public static void main(String[] args) {
        ParallelCommit x = new ParallelCommit(3);
        for (int ts : new int[] {Integer.MIN_VALUE, -1, 0, 1000001, Integer.MAX_VALUE}) {
            due.call(x, "begin(" + ts + ")", () -> x.begin(ts), ParallelCommit.ERR_ARG);
        }
        due.call(x, "begin(1)", () -> x.begin(1), 0, born(0));
        due.call(x, "begin(0) between", () -> x.begin(0), ParallelCommit.ERR_ARG);
        due.call(x, "begin(1000000)", () -> x.begin(1000000), 1, born(1));
        due.call(x, "begin(1) again", () -> x.begin(1), 2, born(2));
        due.call(x, "begin(5) when full", () -> x.begin(5), ParallelCommit.ERR_FULL);
        due.call(x, "begin(0) when full", () -> x.begin(0), ParallelCommit.ERR_ARG);
        due.call(x, "begin(1000001) when full", () -> x.begin(1000001), ParallelCommit.ERR_ARG);
        takesEveryTimestampInside();
        for (int maxTxns = 1; maxTxns <= 8; maxTxns++) {
            refusesUntilAndWhenFull(maxTxns);
        }
        refusedOnesUseUpNoId();
        idsAreNeverReused();
        keepsItsTimestamp();
        due.end();
    }

    private static String[] born(int txn) {
        String[] facts = new String[12];
        facts[0] = "status(" + txn + ")=1";
        facts[1] = "isAlive(" + txn + ")=1";
        for (int slot = 0; slot < 5; slot++) {
            facts[2 + 2 * slot] = "slotState(" + txn + ", " + slot + ")=-4";
            facts[3 + 2 * slot] = "slotTs(" + txn + ", " + slot + ")=-4";
        }
        return facts;
    }

    private static void idsAreNeverReused() {
        ParallelCommit x = new ParallelCommit(2);
        x.begin(4);
        x.rollback(0);
        due.is("begin after a rollback", x.begin(4), 1);
        x.recover(1);
        due.is("begin after all are decided", x.begin(4), ParallelCommit.ERR_FULL);
    }

    private static void keepsItsTimestamp() {
        ParallelCommit x = new ParallelCommit(8);
        Due.writer(x, 1, 0);
        Due.writer(x, 1000000, 1);
        due.is("deliver(0, 0)", x.deliver(0, 0), ParallelCommit.SLOT_AT_TS);
        due.is("deliver(1, 0)", x.deliver(1, 0), ParallelCommit.SLOT_AT_TS);
        due.is("slotTs(0, 0)", x.slotTs(0, 0), 1);
        due.is("slotTs(1, 0)", x.slotTs(1, 0), 1000000);
    }

    private static void takesEveryTimestampInside() {
        for (int ts : new int[] {1, 2, 500000, 999999, 1000000}) {
            due.answers("", "begin(" + ts + ")", 0);
            due.answers("begin(" + ts + "); addWrite(0, 0, 1); deliver(0, 0)", "slotTs(0, 0)", ts);
        }
    }

    private static void refusesUntilAndWhenFull(int maxTxns) {
        for (int begun = 0; begun <= maxTxns; begun++) {
            String run = "begin(10); ".repeat(begun);
            for (int ts : new int[] {Integer.MIN_VALUE, -1000000, -1, 0, 1000001, 1000002, Integer.MAX_VALUE}) {
                due.refused(maxTxns, run, "begin(" + ts + ")", ParallelCommit.ERR_ARG);
            }
        }
        for (int ts : new int[] {1, 10, 1000000}) {
            due.refused(maxTxns, "begin(10); ".repeat(maxTxns), "begin(" + ts + ")", ParallelCommit.ERR_FULL);
        }
        String decided = "begin(10); ".repeat(maxTxns) + "rollback(0); crash(0)";
        due.refused(maxTxns, decided, "begin(10)", ParallelCommit.ERR_FULL);
    }

    private static void refusedOnesUseUpNoId() {
        ParallelCommit x = new ParallelCommit(8);
        for (int txn = 0; txn < 8; txn++) {
            for (int i = 0; i < 10; i++) {
                x.begin(0);
                x.begin(1000001);
            }
            due.is("begin(5) after refused ones", x.begin(5), txn);
            due.is("status(" + (txn + 1) + ")", x.status(txn + 1), ParallelCommit.ST_FREE);
        }
        for (int i = 0; i < 20; i++) {
            due.is("begin(5) when full", x.begin(5), ParallelCommit.ERR_FULL);
        }
    }
}
