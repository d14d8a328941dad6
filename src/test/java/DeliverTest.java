/** Promise 5: deliver. */
public final class DeliverTest {
    private static final Due due = new Due();

    public static void main(String[] args) {
        deliversAtTs();
        refusesWrongArguments();
        refusesWhatIsDeliveredOrDecided();
        refusesABusyKey();
        pushesAboveAReadOrAVersion();
        pushesAPreventedSlot();
        pushesUpToTheEdge();
        due.end();
    }

    private static void deliversAtTs() {
        ParallelCommit x = new ParallelCommit(8);
        Due.writer(x, 10, 0, 5);
        due.call(x, "deliver(0, 1), pending", () -> x.deliver(0, 1), ParallelCommit.SLOT_AT_TS,
            "slotState(0, 1)=3", "slotTs(0, 1)=10");
        x.stage(0);
        x.crash(0);
        due.call(x, "deliver(0, 0), staged and dead", () -> x.deliver(0, 0), ParallelCommit.SLOT_AT_TS,
            "slotState(0, 0)=3", "slotTs(0, 0)=10", "isImplicitlyCommitted(0)=1");
        Due.writer(x, 10, 1);
        x.crash(1);
        due.call(x, "deliver(1, 0), pending and dead", () -> x.deliver(1, 0), ParallelCommit.SLOT_AT_TS,
            "slotState(1, 0)=3", "slotTs(1, 0)=10");
        due.is("read(1, 10)", x.read(1, 10), ParallelCommit.READ_BLOCKED);
        due.is("read(2, 10)", x.read(2, 10), ParallelCommit.READ_NONE);
    }

    private static void refusesWrongArguments() {
        ParallelCommit x = new ParallelCommit(8);
        Due.writer(x, 10, 0, 1);
        Due.writer(x, 10, 2);
        for (int wild : Due.WILD) {
            due.call(x, "deliver(" + wild + ", 0)", () -> x.deliver(wild, 0), ParallelCommit.ERR_NO_TXN);
            due.call(x, "deliver(0, " + wild + ")", () -> x.deliver(0, wild), ParallelCommit.ERR_ARG);
        }
        due.call(x, "deliver(2, 0), the next id", () -> x.deliver(2, 0), ParallelCommit.ERR_NO_TXN);
        due.call(x, "deliver(2, 9), the next id", () -> x.deliver(2, 9), ParallelCommit.ERR_NO_TXN);
        due.call(x, "deliver(0, 2), the next slot", () -> x.deliver(0, 2), ParallelCommit.ERR_ARG);
        due.call(x, "deliver(0, 4), another's cell", () -> x.deliver(0, 4), ParallelCommit.ERR_ARG);
        due.call(x, "deliver(1, -4), another's cell", () -> x.deliver(1, -4), ParallelCommit.ERR_ARG);
        x.rollback(0);
        due.call(x, "deliver(0, 2), decided", () -> x.deliver(0, 2), ParallelCommit.ERR_ARG);
    }

    private static void refusesWhatIsDeliveredOrDecided() {
        ParallelCommit x = new ParallelCommit(8);
        Due.writer(x, 10, 0, 1);
        x.deliver(0, 0);
        due.call(x, "deliver(0, 0) again", () -> x.deliver(0, 0), ParallelCommit.ERR_DUP);
        x.rollback(0);
        due.call(x, "deliver(0, 0) again, aborted", () -> x.deliver(0, 0), ParallelCommit.ERR_DUP);
        due.call(x, "deliver(0, 1), aborted", () -> x.deliver(0, 1), ParallelCommit.ERR_STATE);
        Due.committed(x, 10, 2);
        due.call(x, "deliver(1, 0) again, committed", () -> x.deliver(1, 0), ParallelCommit.ERR_DUP);
        Due.writer(x, 20, 0, 1);
        Due.deliverAll(x, 2);
        due.call(x, "deliver(0, 1), aborted, on a busy key", () -> x.deliver(0, 1), ParallelCommit.ERR_STATE);
        due.call(x, "deliver(0, 0) again, aborted, on a busy key", () -> x.deliver(0, 0), ParallelCommit.ERR_DUP);
    }

    private static void refusesABusyKey() {
        ParallelCommit x = new ParallelCommit(8);
        Due.writer(x, 10, 3);
        Due.writer(x, 20, 4, 3);
        Due.writer(x, 5, 3);
        x.deliver(1, 1);
        due.call(x, "deliver(0, 0) on a later one's intent", () -> x.deliver(0, 0), ParallelCommit.ERR_BUSY);
        due.call(x, "deliver(2, 0) on an earlier id's intent", () -> x.deliver(2, 0), ParallelCommit.ERR_BUSY);
        due.call(x, "deliver(1, 0), its own other key", () -> x.deliver(1, 0), ParallelCommit.SLOT_AT_TS,
            "slotState(1, 0)=3", "slotTs(1, 0)=20");
        x.stage(1);
        due.call(x, "deliver(0, 0) on a staged one's intent", () -> x.deliver(0, 0), ParallelCommit.ERR_BUSY);
        x.crash(1);
        due.call(x, "deliver(0, 0) on a dead one's intent", () -> x.deliver(0, 0), ParallelCommit.ERR_BUSY);
        x.recover(1);
        due.call(x, "deliver(0, 0) after the commit at 20", () -> x.deliver(0, 0), ParallelCommit.SLOT_PUSHED,
            "slotState(0, 0)=4", "slotTs(0, 0)=21");
        x.rollback(0);
        due.call(x, "deliver(2, 0) after the rollback of 21", () -> x.deliver(2, 0), ParallelCommit.SLOT_PUSHED,
            "slotState(2, 0)=4", "slotTs(2, 0)=21");
    }

    private static void pushesAboveAReadOrAVersion() {
        for (int ts = 1; ts <= 20; ts++) {
            int want = ts > 10 ? ts : 11;
            int state = ts > 10 ? ParallelCommit.SLOT_AT_TS : ParallelCommit.SLOT_PUSHED;
            ParallelCommit afterRead = new ParallelCommit(8);
            afterRead.read(6, 10);
            afterRead.read(6, 4);
            deliversTo(afterRead, "after a read at 10", ts, state, want);
            ParallelCommit afterCommit = new ParallelCommit(8);
            Due.committed(afterCommit, 3, 6);
            Due.committed(afterCommit, 10, 6);
            deliversTo(afterCommit, "after a commit at 10", ts, state, want);
        }
        ParallelCommit x = new ParallelCommit(8);
        Due.committed(x, 10, 6);
        x.read(6, 30);
        deliversTo(x, "after a commit at 10 and a read at 30", 20, ParallelCommit.SLOT_PUSHED, 31);
        ParallelCommit y = new ParallelCommit(8);
        y.read(6, 10);
        Due.committed(y, 30, 6);
        deliversTo(y, "after a read at 10 and a commit at 30", 20, ParallelCommit.SLOT_PUSHED, 31);
    }

    private static void deliversTo(ParallelCommit x, String when, int ts, int state, int placed) {
        int txn = Due.writer(x, ts, 6);
        due.is("deliver " + when + " at " + ts, x.deliver(txn, 0), state);
        due.is("slotTs " + when + " at " + ts, x.slotTs(txn, 0), placed);
    }

    private static void pushesAPreventedSlot() {
        ParallelCommit x = new ParallelCommit(8);
        Due.writer(x, 10, 6);
        x.stage(0);
        x.probe(0, 0);
        due.call(x, "deliver(0, 0), prevented", () -> x.deliver(0, 0), ParallelCommit.SLOT_PUSHED,
            "slotState(0, 0)=4", "slotTs(0, 0)=11");
        due.is("read(6, 10) below the pushed intent", x.read(6, 10), ParallelCommit.READ_NONE);
        due.is("read(6, 11) at the pushed intent", x.read(6, 11), ParallelCommit.READ_BLOCKED);
        ParallelCommit y = new ParallelCommit(8);
        Due.writer(y, 10, 6);
        Due.writer(y, 20, 6);
        y.deliver(0, 0);
        due.is("read(6, 30), blocked", y.read(6, 30), ParallelCommit.READ_BLOCKED);
        y.rollback(0);
        due.is("deliver after a blocked read", y.deliver(1, 0), ParallelCommit.SLOT_AT_TS);
    }

    private static void pushesUpToTheEdge() {
        ParallelCommit x = new ParallelCommit(8);
        x.read(0, 1000000);
        Due.writer(x, 1000000, 0);
        due.call(x, "deliver(0, 0) at the edge", () -> x.deliver(0, 0), ParallelCommit.SLOT_PUSHED,
            "slotState(0, 0)=4", "slotTs(0, 0)=1000001");
        due.is("read(0, 1000000) below it", x.read(0, 1000000), ParallelCommit.READ_NONE);
        ParallelCommit y = new ParallelCommit(8);
        y.read(0, 999999);
        Due.writer(y, 1000000, 0);
        due.is("deliver just above the floor", y.deliver(0, 0), ParallelCommit.SLOT_AT_TS);
    }
}
