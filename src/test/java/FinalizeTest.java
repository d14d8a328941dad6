/** Promise 6: finalize. */
public final class FinalizeTest {
    private static final Due due = new Due();

    public static void main(String[] args) {
        commits();
        abortsWhenPushed();
        refuses();
        decidesByEverySlot();
        examinesItsConditionsInOrder();
        due.end();
    }

    private static void commits() {
        ParallelCommit x = new ParallelCommit(8);
        Due.writer(x, 10, 0, 5, 10, 15);
        x.stage(0);
        for (int slot = 3; slot >= 0; slot--) {
            due.call(x, "finalize(0) before slot " + slot, () -> x.finalize(0), ParallelCommit.ERR_NOT_READY);
            x.deliver(0, slot);
        }
        due.call(x, "finalize(0)", () -> x.finalize(0), ParallelCommit.ST_COMMITTED, "status(0)=3");
        due.call(x, "finalize(0) again", () -> x.finalize(0), ParallelCommit.ERR_STATE);
        for (int key : new int[] {0, 5, 10, 15}) {
            due.is("tsCache(" + key + ")", x.tsCache(key), 0);
            due.is("read(" + key + ", 9)", x.read(key, 9), ParallelCommit.READ_NONE);
            due.is("read(" + key + ", 10)", x.read(key, 10), 100 + key);
            due.is("read(" + key + ", 1000000)", x.read(key, 1000000), 100 + key);
        }
        due.is("read(1, 1000000)", x.read(1, 1000000), ParallelCommit.READ_NONE);
    }

    private static void abortsWhenPushed() {
        for (int pushed = 0; pushed < 4; pushed++) {
            ParallelCommit x = new ParallelCommit(8);
            x.read(pushed, 12);
            Due.writer(x, 10, 0, 1, 2, 3);
            Due.deliverAll(x, 0);
            x.stage(0);
            due.call(x, "finalize(0), slot " + pushed + " pushed", () -> x.finalize(0), ParallelCommit.ST_ABORTED, "status(0)=4");
            for (int key = 0; key < 4; key++) {
                due.is("read(" + key + ", 20) after the abort", x.read(key, 20), ParallelCommit.READ_NONE);
            }
        }
    }

    private static void refuses() {
        ParallelCommit x = new ParallelCommit(8);
        Due.writer(x, 10, 0);
        for (int wild : Due.WILD) {
            due.call(x, "finalize(" + wild + ")", () -> x.finalize(wild), ParallelCommit.ERR_NO_TXN);
        }
        due.call(x, "finalize(1), the next id", () -> x.finalize(1), ParallelCommit.ERR_NO_TXN);
        due.call(x, "finalize(0), pending", () -> x.finalize(0), ParallelCommit.ERR_STATE);
        x.deliver(0, 0);
        due.call(x, "finalize(0), pending and delivered", () -> x.finalize(0), ParallelCommit.ERR_STATE);
        x.crash(0);
        due.call(x, "finalize(0), pending and dead", () -> x.finalize(0), ParallelCommit.ERR_STATE);
        Due.writer(x, 10, 1);
        x.stage(1);
        x.crash(1);
        due.call(x, "finalize(1), dead, not delivered", () -> x.finalize(1), ParallelCommit.ERR_DEAD);
        x.deliver(1, 0);
        due.call(x, "finalize(1), dead, delivered", () -> x.finalize(1), ParallelCommit.ERR_DEAD);
        x.recover(1);
        due.call(x, "finalize(1), committed", () -> x.finalize(1), ParallelCommit.ERR_STATE);
        x.recover(0);
        due.call(x, "finalize(0), aborted", () -> x.finalize(0), ParallelCommit.ERR_STATE);
        Due.writer(x, 10, 2);
        x.stage(2);
        x.probe(2, 0);
        due.call(x, "finalize(2), prevented, not delivered", () -> x.finalize(2), ParallelCommit.ERR_NOT_READY);
    }

    private static void decidesByEverySlot() {
        for (String mix : Mix.all()) {
            String run = Mix.run(mix) + "; stage(0)";
            if (!Mix.allDelivered(mix)) {
                due.refused(run, "finalize(0)", ParallelCommit.ERR_NOT_READY);
                continue;
            }
            boolean commits = Mix.allAtTs(mix);
            int decision = commits ? ParallelCommit.ST_COMMITTED : ParallelCommit.ST_ABORTED;
            ParallelCommit x = Call.made(8, Call.parse(run));
            due.call(x, "finalize(0) of " + mix, () -> x.finalize(0), decision, "status(0)=" + decision);
            for (int slot = 0; slot < mix.length(); slot++) {
                int key = Mix.key(slot);
                due.is("read(" + key + ", 9) of " + mix, x.read(key, 9), ParallelCommit.READ_NONE);
                due.is("read(" + key + ", 20) of " + mix, x.read(key, 20), commits ? Mix.value(slot) : ParallelCommit.READ_NONE);
            }
        }
    }

    private static void examinesItsConditionsInOrder() {
        for (String dead : new String[] {"", "; crash(0)"}) {
            due.refused("begin(10)" + dead, "finalize(1)", ParallelCommit.ERR_NO_TXN);
            due.refused("begin(10)" + dead, "finalize(0)", ParallelCommit.ERR_STATE);
            due.refused(Mix.run("AA") + dead, "finalize(0)", ParallelCommit.ERR_STATE);
            due.refused(Mix.run("A-") + dead, "finalize(0)", ParallelCommit.ERR_STATE);
            due.refused(Mix.run("A-") + "; stage(0); recover(0)" + dead, "finalize(0)", ParallelCommit.ERR_STATE);
            due.refused(Mix.run("AA") + "; rollback(0)" + dead, "finalize(0)", ParallelCommit.ERR_STATE);
            due.refused(Mix.run("AA") + "; stage(0); finalize(0)" + dead, "finalize(0)", ParallelCommit.ERR_STATE);
            due.refused(Mix.run("AP") + "; stage(0); finalize(0)" + dead, "finalize(0)", ParallelCommit.ERR_STATE);
        }
        for (String mix : new String[] {"A", "P", "-", "AA", "AP", "A-", "----"}) {
            due.refused(Mix.run(mix) + "; stage(0); crash(0)", "finalize(0)", ParallelCommit.ERR_DEAD);
        }
        due.refused(Mix.run("A-") + "; stage(0); probe(0, 1)", "finalize(0)", ParallelCommit.ERR_NOT_READY);
        due.refused(Mix.run("P-") + "; stage(0)", "finalize(0)", ParallelCommit.ERR_NOT_READY);
        due.refused(Mix.run("-P") + "; stage(0)", "finalize(0)", ParallelCommit.ERR_NOT_READY);
    }
}
