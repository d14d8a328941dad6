/** Promise 10: recover. */
public final class RecoverTest {
    private static final Due due = new Due();

    public static void main(String[] args) {
        abortsAPendingOne();
        commitsAnImplicitlyCommittedOne();
        preventsEverySlotNotDelivered();
        abortsAPushedOne();
        refuses();
        due.end();
    }

    private static void abortsAPendingOne() {
        ParallelCommit x = new ParallelCommit(8);
        Due.writer(x, 10, 0, 1);
        x.deliver(0, 0);
        due.call(x, "recover(0), pending", () -> x.recover(0), ParallelCommit.ST_ABORTED, "status(0)=4");
        due.is("read(0, 20)", x.read(0, 20), ParallelCommit.READ_NONE);
        Due.writer(x, 30, 2);
        x.deliver(1, 0);
        x.crash(1);
        due.call(x, "recover(1), pending, delivered and dead", () -> x.recover(1), ParallelCommit.ST_ABORTED, "status(1)=4");
        x.begin(10);
        due.call(x, "recover(2), without a slot", () -> x.recover(2), ParallelCommit.ST_ABORTED, "status(2)=4");
    }

    private static void commitsAnImplicitlyCommittedOne() {
        ParallelCommit x = new ParallelCommit(8);
        Due.writer(x, 10, 0, 1, 2, 3);
        Due.deliverAll(x, 0);
        x.stage(0);
        due.call(x, "recover(0), alive", () -> x.recover(0), ParallelCommit.ST_COMMITTED, "status(0)=3");
        Due.writer(x, 20, 0, 1);
        x.stage(1);
        Due.deliverAll(x, 1);
        x.crash(1);
        due.call(x, "recover(1), dead", () -> x.recover(1), ParallelCommit.ST_COMMITTED, "status(1)=3");
        due.is("read(0, 15)", x.read(0, 15), 100);
        due.is("read(3, 15)", x.read(3, 15), 103);
        due.is("read(1, 25)", x.read(1, 25), 101);
    }

    private static void preventsEverySlotNotDelivered() {
        ParallelCommit x = new ParallelCommit(8);
        x.read(3, 50);
        x.read(2, 4);
        Due.writer(x, 10, 0, 1, 2, 3);
        x.deliver(0, 1);
        x.stage(0);
        due.call(x, "recover(0), three under way", () -> x.recover(0), ParallelCommit.ST_ABORTED, "status(0)=4",
            "tsCache(0)=10", "tsCache(2)=10", "slotState(0, 0)=2", "slotState(0, 2)=2");
        due.is("tsCache(1)", x.tsCache(1), 0);
        due.is("slotTs(0, 1)", x.slotTs(0, 1), 10);
        due.is("slotTs(0, 0)", x.slotTs(0, 0), 0);
        Due.writer(x, 10, 0, 1);
        due.is("deliver(1, 0) on a key prevented at its timestamp", x.deliver(1, 0), ParallelCommit.SLOT_PUSHED);
        due.is("deliver(1, 1) on a key that was not", x.deliver(1, 1), ParallelCommit.SLOT_AT_TS);
    }

    private static void abortsAPushedOne() {
        ParallelCommit x = new ParallelCommit(8);
        x.read(0, 10);
        Due.writer(x, 10, 0, 1);
        Due.deliverAll(x, 0);
        x.stage(0);
        due.call(x, "recover(0), one pushed", () -> x.recover(0), ParallelCommit.ST_ABORTED, "status(0)=4");
        due.is("read(1, 20)", x.read(1, 20), ParallelCommit.READ_NONE);
        Due.writer(x, 30, 0, 1);
        x.read(0, 30);
        x.deliver(1, 0);
        x.stage(1);
        due.call(x, "recover(1), one pushed before one under way", () -> x.recover(1), ParallelCommit.ST_ABORTED,
            "status(1)=4", "tsCache(1)=30", "slotState(1, 1)=2");
    }

    private static void refuses() {
        ParallelCommit x = new ParallelCommit(8);
        Due.writer(x, 10, 0);
        for (int wild : Due.WILD) {
            due.call(x, "recover(" + wild + ")", () -> x.recover(wild), ParallelCommit.ERR_NO_TXN);
        }
        due.call(x, "recover(1), the next id", () -> x.recover(1), ParallelCommit.ERR_NO_TXN);
        x.rollback(0);
        due.call(x, "recover(0), aborted with one under way", () -> x.recover(0), ParallelCommit.ERR_STATE);
        Due.committed(x, 10, 1);
        due.call(x, "recover(1), committed", () -> x.recover(1), ParallelCommit.ERR_STATE);
        due.is("read(1, 10)", x.read(1, 10), 101);
    }
}
