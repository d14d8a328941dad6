/** Promise 4: stage. */
public final class StageTest {
    private static final Due due = new Due();

    public static void main(String[] args) {
        stages();
        refuses();
        keepsPipelinedWrites();
        commitsImplicitlyWhenAllAreAtTs();
        examinesItsConditionsInOrder();
        due.end();
    }

    private static void stages() {
        ParallelCommit x = new ParallelCommit(8);
        x.begin(10);
        due.call(x, "stage(0) without a slot", () -> x.stage(0), ParallelCommit.ERR_NOT_READY);
        x.addWrite(0, 1, 11);
        due.call(x, "stage(0)", () -> x.stage(0), ParallelCommit.OK, "status(0)=2");
        due.call(x, "stage(0) again", () -> x.stage(0), ParallelCommit.ERR_STATE);
        due.is("deliver(0, 0)", x.deliver(0, 0), ParallelCommit.SLOT_AT_TS);
        due.is("isImplicitlyCommitted(0)", x.isImplicitlyCommitted(0), true);
    }

    private static void refuses() {
        ParallelCommit x = new ParallelCommit(8);
        x.begin(10);
        for (int wild : Due.WILD) {
            due.call(x, "stage(" + wild + ")", () -> x.stage(wild), ParallelCommit.ERR_NO_TXN);
        }
        due.call(x, "stage(1), the next id", () -> x.stage(1), ParallelCommit.ERR_NO_TXN);
        x.crash(0);
        due.call(x, "stage(0), dead without a slot", () -> x.stage(0), ParallelCommit.ERR_DEAD);
        Due.writer(x, 10, 1);
        x.crash(1);
        due.call(x, "stage(1), dead", () -> x.stage(1), ParallelCommit.ERR_DEAD);
        x.recover(1);
        due.call(x, "stage(1), dead and aborted", () -> x.stage(1), ParallelCommit.ERR_STATE);
        Due.committed(x, 10, 2);
        due.call(x, "stage(2), committed", () -> x.stage(2), ParallelCommit.ERR_STATE);
        x.begin(10);
        x.rollback(3);
        due.call(x, "stage(3), aborted without a slot", () -> x.stage(3), ParallelCommit.ERR_STATE);
    }

    private static void keepsPipelinedWrites() {
        ParallelCommit x = new ParallelCommit(8);
        x.read(2, 40);
        Due.writer(x, 10, 0, 1);
        Due.deliverAll(x, 0);
        due.is("isImplicitlyCommitted(0) before stage", x.isImplicitlyCommitted(0), false);
        due.call(x, "stage(0), all delivered at ts", () -> x.stage(0), ParallelCommit.OK,
            "status(0)=2", "isImplicitlyCommitted(0)=1");
        Due.writer(x, 10, 2, 3);
        x.deliver(1, 0);
        due.call(x, "stage(1), one pushed, one under way", () -> x.stage(1), ParallelCommit.OK, "status(1)=2");
        due.is("read(0, 9) below the intent", x.read(0, 9), ParallelCommit.READ_NONE);
        due.is("read(0, 10) at the intent", x.read(0, 10), ParallelCommit.READ_BLOCKED);
    }

    private static void commitsImplicitlyWhenAllAreAtTs() {
        for (String mix : Mix.all()) {
            String run = Mix.run(mix);
            due.answers(run, "isImplicitlyCommitted(0)", 0);
            ParallelCommit x = Call.made(8, Call.parse(run));
            if (Mix.allAtTs(mix)) {
                due.call(x, "stage(0) of " + mix, () -> x.stage(0), ParallelCommit.OK,
                    "status(0)=2", "isImplicitlyCommitted(0)=1");
            } else {
                due.call(x, "stage(0) of " + mix, () -> x.stage(0), ParallelCommit.OK, "status(0)=2");
            }
            due.refused(run + "; stage(0)", "stage(0)", ParallelCommit.ERR_STATE);
        }
    }

    private static void examinesItsConditionsInOrder() {
        for (int wild : Due.WILD) {
            due.refused("begin(10); addWrite(0, 0, 1)", "stage(" + wild + ")", ParallelCommit.ERR_NO_TXN);
        }
        due.refused("begin(10)", "stage(0)", ParallelCommit.ERR_NOT_READY);
        due.refused("begin(10); addWrite(0, 16, 1)", "stage(0)", ParallelCommit.ERR_NOT_READY);
        due.refused("begin(10); begin(20); addWrite(1, 0, 1)", "stage(0)", ParallelCommit.ERR_NOT_READY);
        due.refused("begin(10); crash(0)", "stage(0)", ParallelCommit.ERR_DEAD);
        due.refused("begin(10); addWrite(0, 0, 1); crash(0)", "stage(0)", ParallelCommit.ERR_DEAD);
        due.refused("begin(10); rollback(0)", "stage(0)", ParallelCommit.ERR_STATE);
        due.refused("begin(10); recover(0); crash(0)", "stage(0)", ParallelCommit.ERR_STATE);
        due.refused("begin(10); addWrite(0, 0, 1); stage(0); crash(0)", "stage(0)", ParallelCommit.ERR_STATE);
        due.refused(Mix.run("AA") + "; stage(0); finalize(0)", "stage(0)", ParallelCommit.ERR_STATE);
        due.refused(Mix.run("AA") + "; stage(0); crash(0); recover(0)", "stage(0)", ParallelCommit.ERR_STATE);
    }
}
