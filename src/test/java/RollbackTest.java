/** Promise 7: rollback. */
public final class RollbackTest {
    private static final Due due = new Due();

    public static void main(String[] args) {
        aborts();
        refuses();
        abortsWhateverTheSlots();
        examinesItsConditionsInOrder();
        due.end();
    }

    private static void aborts() {
        ParallelCommit x = new ParallelCommit(8);
        x.begin(5);
        due.call(x, "rollback(0) without a slot", () -> x.rollback(0), ParallelCommit.ST_ABORTED, "status(0)=4");
        Due.writer(x, 10, 0, 1);
        x.deliver(1, 0);
        due.is("read(0, 10) while the intent stands", x.read(0, 10), ParallelCommit.READ_BLOCKED);
        due.call(x, "rollback(1)", () -> x.rollback(1), ParallelCommit.ST_ABORTED, "status(1)=4");
        due.call(x, "rollback(1) again", () -> x.rollback(1), ParallelCommit.ERR_STATE);
        due.is("read(0, 20) after the rollback", x.read(0, 20), ParallelCommit.READ_NONE);
        due.is("read(1, 20) after the rollback", x.read(1, 20), ParallelCommit.READ_NONE);
        Due.writer(x, 10, 2);
        Due.writer(x, 12, 2);
        x.deliver(2, 0);
        x.rollback(2);
        due.is("deliver(3, 0) after the rollback", x.deliver(3, 0), ParallelCommit.SLOT_AT_TS);
    }

    private static void refuses() {
        ParallelCommit x = new ParallelCommit(8);
        Due.writer(x, 10, 0);
        for (int wild : Due.WILD) {
            due.call(x, "rollback(" + wild + ")", () -> x.rollback(wild), ParallelCommit.ERR_NO_TXN);
        }
        due.call(x, "rollback(1), the next id", () -> x.rollback(1), ParallelCommit.ERR_NO_TXN);
        x.crash(0);
        due.call(x, "rollback(0), dead", () -> x.rollback(0), ParallelCommit.ERR_DEAD);
        Due.writer(x, 10, 1);
        x.stage(1);
        due.call(x, "rollback(1), staged", () -> x.rollback(1), ParallelCommit.ERR_STATE);
        x.crash(1);
        due.call(x, "rollback(1), staged and dead", () -> x.rollback(1), ParallelCommit.ERR_STATE);
        Due.committed(x, 10, 2);
        due.call(x, "rollback(2), committed", () -> x.rollback(2), ParallelCommit.ERR_STATE);
        due.is("read(2, 10) after it", x.read(2, 10), 102);
    }

    private static void abortsWhateverTheSlots() {
        for (String mix : Mix.all()) {
            ParallelCommit x = Call.made(8, Call.parse(Mix.run(mix)));
            due.call(x, "rollback(0) of " + mix, () -> x.rollback(0), ParallelCommit.ST_ABORTED, "status(0)=4");
            for (int slot = 0; slot < mix.length(); slot++) {
                due.is("read(" + Mix.key(slot) + ", 20) of " + mix, x.read(Mix.key(slot), 20), ParallelCommit.READ_NONE);
            }
        }
    }

    private static void examinesItsConditionsInOrder() {
        for (int wild : Due.WILD) {
            due.refused("begin(10); crash(0)", "rollback(" + wild + ")", ParallelCommit.ERR_NO_TXN);
        }
        due.refused("begin(10); crash(0)", "rollback(0)", ParallelCommit.ERR_DEAD);
        due.refused(Mix.run("AP-") + "; crash(0)", "rollback(0)", ParallelCommit.ERR_DEAD);
        String[] runs = {"begin(10); rollback(0)", "begin(10); recover(0)", Mix.run("A-") + "; stage(0)",
            Mix.run("AA") + "; stage(0)", Mix.run("AA") + "; stage(0); finalize(0)",
            Mix.run("AP") + "; stage(0); finalize(0)", Mix.run("-") + "; stage(0); recover(0)"};
        for (String run : runs) {
            due.refused(run, "rollback(0)", ParallelCommit.ERR_STATE);
            due.refused(run + "; crash(0)", "rollback(0)", ParallelCommit.ERR_STATE);
        }
    }
}
