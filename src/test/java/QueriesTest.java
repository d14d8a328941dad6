/** Promises 12 to 17: the calls that change nothing. */
public final class QueriesTest {
    private static final Due due = new Due();

    public static void main(String[] args) {
        status();
        isAlive();
        slotState();
        slotTs();
        isImplicitlyCommitted();
        tsCache();
        changeNothing();
        due.end();
    }

    private static void status() {
        ParallelCommit x = new ParallelCommit(8);
        x.begin(10);
        Due.writer(x, 10, 0);
        x.stage(1);
        Due.committed(x, 10, 1);
        x.begin(10);
        x.rollback(3);
        due.is("status(0)", x.status(0), ParallelCommit.ST_PENDING);
        due.is("status(1)", x.status(1), ParallelCommit.ST_STAGING);
        due.is("status(2)", x.status(2), ParallelCommit.ST_COMMITTED);
        due.is("status(3)", x.status(3), ParallelCommit.ST_ABORTED);
        due.is("status(4)", x.status(4), ParallelCommit.ST_FREE);
        for (int wild : Due.WILD) {
            due.is("status(" + wild + ")", x.status(wild), ParallelCommit.ST_FREE);
        }
    }

    private static void isAlive() {
        ParallelCommit x = new ParallelCommit(8);
        x.begin(10);
        x.begin(10);
        x.crash(0);
        due.is("isAlive(0)", x.isAlive(0), false);
        due.is("isAlive(1)", x.isAlive(1), true);
        due.is("isAlive(2)", x.isAlive(2), false);
        x.rollback(1);
        due.is("isAlive(1), aborted", x.isAlive(1), true);
        Due.committed(x, 10, 0);
        due.is("isAlive(2), committed", x.isAlive(2), true);
        for (int wild : Due.WILD) {
            due.is("isAlive(" + wild + ")", x.isAlive(wild), false);
        }
    }

    private static void slotState() {
        ParallelCommit x = new ParallelCommit(8);
        Due.writer(x, 10, 0, 1, 2, 3);
        due.is("slotState(0, 0)", x.slotState(0, 0), ParallelCommit.SLOT_INFLIGHT);
        x.read(0, 9);
        due.is("slotState(0, 0), read below", x.slotState(0, 0), ParallelCommit.SLOT_INFLIGHT);
        x.read(0, 10);
        due.is("slotState(0, 0), read at", x.slotState(0, 0), ParallelCommit.SLOT_PREVENTED);
        x.read(1, 11);
        due.is("slotState(0, 1), read above", x.slotState(0, 1), ParallelCommit.SLOT_PREVENTED);
        Due.writer(x, 10, 2);
        x.stage(1);
        x.deliver(1, 0);
        due.is("slotState(0, 2), another's intent", x.slotState(0, 2), ParallelCommit.SLOT_INFLIGHT);
        x.finalize(1);
        due.is("slotState(0, 2), a version at", x.slotState(0, 2), ParallelCommit.SLOT_PREVENTED);
        Due.committed(x, 9, 3);
        due.is("slotState(0, 3), a version below", x.slotState(0, 3), ParallelCommit.SLOT_INFLIGHT);
        x.deliver(0, 3);
        x.deliver(0, 0);
        due.is("slotState(0, 3), delivered", x.slotState(0, 3), ParallelCommit.SLOT_AT_TS);
        due.is("slotState(0, 0), delivered", x.slotState(0, 0), ParallelCommit.SLOT_PUSHED);
        x.rollback(0);
        due.is("slotState(0, 3), aborted", x.slotState(0, 3), ParallelCommit.SLOT_AT_TS);
        due.is("slotState(0, 1), aborted", x.slotState(0, 1), ParallelCommit.SLOT_PREVENTED);
        x.read(3, 500);
        due.is("slotState(0, 3), read since", x.slotState(0, 3), ParallelCommit.SLOT_AT_TS);
        due.is("slotState(1, 0), committed", x.slotState(1, 0), ParallelCommit.SLOT_AT_TS);
        due.is("slotState(1, 1)", x.slotState(1, 1), ParallelCommit.ERR_ARG);
        for (int wild : Due.WILD) {
            due.is("slotState(" + wild + ", 0)", x.slotState(wild, 0), ParallelCommit.ERR_NO_TXN);
            due.is("slotState(" + wild + ", 99)", x.slotState(wild, 99), ParallelCommit.ERR_NO_TXN);
            due.is("slotState(0, " + wild + ")", x.slotState(0, wild), ParallelCommit.ERR_ARG);
        }
    }

    private static void slotTs() {
        ParallelCommit x = new ParallelCommit(8);
        x.read(1, 40);
        Due.writer(x, 10, 0, 1, 2);
        x.deliver(0, 0);
        x.deliver(0, 1);
        for (int round = 0; round < 2; round++) {
            due.is("slotTs(0, 0)", x.slotTs(0, 0), 10);
            due.is("slotTs(0, 1)", x.slotTs(0, 1), 41);
            due.is("slotTs(0, 2)", x.slotTs(0, 2), 0);
            due.is("slotTs(0, 3)", x.slotTs(0, 3), ParallelCommit.ERR_ARG);
            due.is("slotTs(1, 0)", x.slotTs(1, 0), ParallelCommit.ERR_NO_TXN);
            x.recover(0);
        }
        for (int wild : Due.WILD) {
            due.is("slotTs(" + wild + ", 0)", x.slotTs(wild, 0), ParallelCommit.ERR_NO_TXN);
            due.is("slotTs(" + wild + ", 99)", x.slotTs(wild, 99), ParallelCommit.ERR_NO_TXN);
            due.is("slotTs(0, " + wild + ")", x.slotTs(0, wild), ParallelCommit.ERR_ARG);
        }
    }

    private static void isImplicitlyCommitted() {
        ParallelCommit x = new ParallelCommit(8);
        x.begin(10);
        due.is("isImplicitlyCommitted(0), no slot", x.isImplicitlyCommitted(0), false);
        x.addWrite(0, 0, 1);
        x.addWrite(0, 1, 1);
        x.stage(0);
        due.is("isImplicitlyCommitted(0), staged", x.isImplicitlyCommitted(0), false);
        x.deliver(0, 1);
        due.is("isImplicitlyCommitted(0), one delivered", x.isImplicitlyCommitted(0), false);
        x.deliver(0, 0);
        due.is("isImplicitlyCommitted(0), both delivered", x.isImplicitlyCommitted(0), true);
        x.read(0, 5);
        x.probe(0, 0);
        x.crash(0);
        due.is("isImplicitlyCommitted(0), probed and dead", x.isImplicitlyCommitted(0), true);
        x.recover(0);
        due.is("isImplicitlyCommitted(0), committed", x.isImplicitlyCommitted(0), true);
        Due.writer(x, 20, 2);
        x.deliver(1, 0);
        due.is("isImplicitlyCommitted(1), not staged", x.isImplicitlyCommitted(1), false);
        x.rollback(1);
        due.is("isImplicitlyCommitted(1), aborted", x.isImplicitlyCommitted(1), false);
        x.read(3, 30);
        Due.committed(x, 30, 3, 4);
        due.is("status(2), pushed", x.status(2), ParallelCommit.ST_ABORTED);
        due.is("isImplicitlyCommitted(2), pushed", x.isImplicitlyCommitted(2), false);
        for (int wild : Due.WILD) {
            due.is("isImplicitlyCommitted(" + wild + ")", x.isImplicitlyCommitted(wild), false);
        }
        due.is("isImplicitlyCommitted(3)", x.isImplicitlyCommitted(3), false);
    }

    private static void tsCache() {
        ParallelCommit x = new ParallelCommit(8);
        for (int key = 0; key < 16; key++) {
            x.read(key, 1 + key);
        }
        for (int key = 0; key < 16; key++) {
            due.is("tsCache(" + key + ")", x.tsCache(key), 1 + key);
        }
        x.read(15, 1000000);
        due.is("tsCache(15)", x.tsCache(15), 1000000);
        Due.committed(x, 50, 0);
        due.is("tsCache(0) after a commit", x.tsCache(0), 1);
        for (int wild : Due.WILD) {
            due.is("tsCache(" + wild + ")", x.tsCache(wild), ParallelCommit.ERR_ARG);
        }
    }

    private static void changeNothing() {
        ParallelCommit x = new ParallelCommit(8);
        Due.writer(x, 10, 0, 1);
        x.read(1, 10);
        x.stage(0);
        for (int round = 0; round < 3; round++) {
            due.call(x, "the queries", () -> Due.facts(x).size(), 9 * 13 + 16);
        }
        due.is("deliver(0, 0) after the queries", x.deliver(0, 0), ParallelCommit.SLOT_AT_TS);
        due.is("deliver(0, 1) after the queries", x.deliver(0, 1), ParallelCommit.SLOT_PUSHED);
        due.is("slotTs(0, 1)", x.slotTs(0, 1), 11);
        due.is("begin after the queries", x.begin(4), 1);
    }
}
