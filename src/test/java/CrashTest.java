/** Promise 8: crash. */
public final class CrashTest {
    private static final Due due = new Due();

    public static void main(String[] args) {
        crashesInAnyStatus();
        leavesTheRestWorking();
        changesAliveAloneInAnyStatus();
        theOthersRefuseAfterTheirEarlierConditions();
        due.end();
    }

    private static void crashesInAnyStatus() {
        ParallelCommit x = new ParallelCommit(8);
        for (int wild : Due.WILD) {
            due.call(x, "crash(" + wild + ")", () -> x.crash(wild), ParallelCommit.ERR_NO_TXN);
        }
        x.begin(10);
        due.call(x, "crash(1), the next id", () -> x.crash(1), ParallelCommit.ERR_NO_TXN);
        Due.writer(x, 10, 0);
        x.stage(1);
        Due.committed(x, 10, 1);
        x.begin(10);
        x.rollback(3);
        for (int txn = 0; txn < 4; txn++) {
            int t = txn;
            due.call(x, "crash(" + t + ")", () -> x.crash(t), ParallelCommit.OK, "isAlive(" + t + ")=0");
            due.call(x, "crash(" + t + ") again", () -> x.crash(t), ParallelCommit.ERR_DEAD);
        }
        due.is("read(1, 10) after the crash", x.read(1, 10), 101);
    }

    private static void leavesTheRestWorking() {
        ParallelCommit x = new ParallelCommit(8);
        Due.writer(x, 10, 0, 1);
        x.crash(0);
        due.is("addWrite(0, 2, 2), dead", x.addWrite(0, 2, 2), ParallelCommit.ERR_DEAD);
        due.is("stage(0), dead", x.stage(0), ParallelCommit.ERR_DEAD);
        due.is("rollback(0), dead", x.rollback(0), ParallelCommit.ERR_DEAD);
        due.is("deliver(0, 0), dead", x.deliver(0, 0), ParallelCommit.SLOT_AT_TS);
        due.is("recover(0), dead", x.recover(0), ParallelCommit.ST_ABORTED);
        Due.writer(x, 20, 0, 1);
        x.stage(1);
        x.crash(1);
        due.is("finalize(1), dead", x.finalize(1), ParallelCommit.ERR_DEAD);
        due.is("deliver(1, 0), dead", x.deliver(1, 0), ParallelCommit.SLOT_AT_TS);
        due.is("probe(1, 0), dead", x.probe(1, 0), ParallelCommit.SLOT_AT_TS);
        due.is("deliver(1, 1), dead", x.deliver(1, 1), ParallelCommit.SLOT_AT_TS);
        due.is("recover(1), dead", x.recover(1), ParallelCommit.ST_COMMITTED);
        due.is("begin after crashes", x.begin(30), 2);
        due.is("isAlive(2)", x.isAlive(2), true);
    }

    private static void changesAliveAloneInAnyStatus() {
        String[] statuses = {"", "; stage(0)", "; rollback(0)", "; recover(0)", "; stage(0); recover(0)",
            "; stage(0); finalize(0)"};
        for (String mix : Mix.all()) {
            for (String status : statuses) {
                String run = Mix.run(mix) + status;
                ParallelCommit x = Call.made(8, Call.parse(run));
                due.call(x, "crash(0) after " + run, () -> x.crash(0), ParallelCommit.OK, "isAlive(0)=0");
                due.call(x, "crash(0) again after " + run, () -> x.crash(0), ParallelCommit.ERR_DEAD);
            }
        }
        for (String status : statuses) {
            due.refused(Mix.run("A-") + status + "; crash(0)", "crash(0)", ParallelCommit.ERR_DEAD);
            due.refused(Mix.run("AA") + status + "; crash(0)", "crash(0)", ParallelCommit.ERR_DEAD);
            due.refused(Mix.run("AA") + status, "crash(1)", ParallelCommit.ERR_NO_TXN);
        }
        due.answers("begin(10); begin(10); crash(0)", "crash(1)", ParallelCommit.OK);
        due.answers("begin(10); begin(10); crash(0)", "isAlive(1)", 1);
    }

    private static void theOthersRefuseAfterTheirEarlierConditions() {
        String pending = Mix.run("A-") + "; crash(0)";
        due.refused(pending, "addWrite(0, 1, 1)", ParallelCommit.ERR_DEAD);
        due.refused(pending, "stage(0)", ParallelCommit.ERR_DEAD);
        due.refused(pending, "rollback(0)", ParallelCommit.ERR_DEAD);
        due.refused(pending, "finalize(0)", ParallelCommit.ERR_STATE);
        String staged = Mix.run("A-") + "; stage(0); crash(0)";
        due.refused(staged, "addWrite(0, 1, 1)", ParallelCommit.ERR_STATE);
        due.refused(staged, "stage(0)", ParallelCommit.ERR_STATE);
        due.refused(staged, "rollback(0)", ParallelCommit.ERR_STATE);
        due.refused(staged, "finalize(0)", ParallelCommit.ERR_DEAD);
        due.answers(staged, "probe(0, 1)", ParallelCommit.SLOT_PREVENTED);
        due.answers(staged, "deliver(0, 1)", ParallelCommit.SLOT_AT_TS);
        due.answers(staged, "recover(0)", ParallelCommit.ST_ABORTED);
        due.answers(staged + "; deliver(0, 1)", "recover(0)", ParallelCommit.ST_COMMITTED);
        due.answers(staged + "; deliver(0, 1); recover(0)", "isAlive(0)", 0);
    }
}
