/** Promise 9: probe. */
public final class ProbeTest {
    private static final Due due = new Due();

    public static void main(String[] args) {
        probes();
        raisesTheCacheOnlyUpwards();
        refuses();
        answersHowEverySlotStands();
        examinesItsConditionsInOrder();
        preventsAtTheEdges();
        due.end();
    }

    private static void probes() {
        ParallelCommit x = new ParallelCommit(8);
        x.read(1, 30);
        Due.writer(x, 10, 0, 1, 2);
        Due.writer(x, 8, 2);
        Due.writer(x, 12, 2);
        x.deliver(0, 0);
        x.deliver(0, 1);
        x.stage(0);
        due.call(x, "probe(0, 0), at ts", () -> x.probe(0, 0), ParallelCommit.SLOT_AT_TS);
        due.call(x, "probe(0, 1), pushed", () -> x.probe(0, 1), ParallelCommit.SLOT_PUSHED);
        due.call(x, "probe(0, 2), not delivered", () -> x.probe(0, 2), ParallelCommit.SLOT_PREVENTED,
            "tsCache(2)=10", "slotState(0, 2)=2", "slotState(1, 0)=2");
        due.call(x, "probe(0, 2) again", () -> x.probe(0, 2), ParallelCommit.SLOT_PREVENTED);
        due.is("deliver(0, 2), prevented", x.deliver(0, 2), ParallelCommit.SLOT_PUSHED);
        due.call(x, "probe(0, 2), pushed", () -> x.probe(0, 2), ParallelCommit.SLOT_PUSHED);
    }

    private static void raisesTheCacheOnlyUpwards() {
        ParallelCommit x = new ParallelCommit(8);
        Due.writer(x, 10, 0, 1, 2);
        x.stage(0);
        x.crash(0);
        x.read(0, 9);
        x.read(1, 10);
        x.read(2, 11);
        due.call(x, "probe(0, 0), read below", () -> x.probe(0, 0), ParallelCommit.SLOT_PREVENTED,
            "tsCache(0)=10", "slotState(0, 0)=2");
        due.call(x, "probe(0, 1), read at", () -> x.probe(0, 1), ParallelCommit.SLOT_PREVENTED);
        due.call(x, "probe(0, 2), read above", () -> x.probe(0, 2), ParallelCommit.SLOT_PREVENTED);
        ParallelCommit y = new ParallelCommit(8);
        Due.writer(y, 10, 3);
        y.stage(0);
        Due.writer(y, 5, 3);
        y.deliver(1, 0);
        due.call(y, "probe(0, 0) while another's intent stands", () -> y.probe(0, 0), ParallelCommit.SLOT_PREVENTED,
            "tsCache(3)=10", "slotState(0, 0)=2");
        Due.committed(y, 20, 4);
        Due.writer(y, 10, 4);
        y.stage(3);
        due.call(y, "probe(3, 0), a version above", () -> y.probe(3, 0), ParallelCommit.SLOT_PREVENTED, "tsCache(4)=10");
    }

    private static void refuses() {
        ParallelCommit x = new ParallelCommit(8);
        Due.writer(x, 10, 0, 1);
        for (int wild : Due.WILD) {
            due.call(x, "probe(" + wild + ", 0)", () -> x.probe(wild, 0), ParallelCommit.ERR_NO_TXN);
            due.call(x, "probe(0, " + wild + "), pending", () -> x.probe(0, wild), ParallelCommit.ERR_STATE);
        }
        due.call(x, "probe(1, 0), the next id", () -> x.probe(1, 0), ParallelCommit.ERR_NO_TXN);
        due.call(x, "probe(0, 0), pending", () -> x.probe(0, 0), ParallelCommit.ERR_STATE);
        x.stage(0);
        for (int wild : Due.WILD) {
            due.call(x, "probe(0, " + wild + ")", () -> x.probe(0, wild), ParallelCommit.ERR_ARG);
        }
        due.call(x, "probe(0, 2), the next slot", () -> x.probe(0, 2), ParallelCommit.ERR_ARG);
        x.recover(0);
        due.call(x, "probe(0, 0), aborted", () -> x.probe(0, 0), ParallelCommit.ERR_STATE);
        Due.committed(x, 20, 0);
        due.call(x, "probe(1, 0), committed", () -> x.probe(1, 0), ParallelCommit.ERR_STATE);
        due.call(x, "probe(1, 5), committed", () -> x.probe(1, 5), ParallelCommit.ERR_STATE);
    }

    private static void answersHowEverySlotStands() {
        for (String mix : Mix.all()) {
            for (String then : new String[] {"; stage(0)", "; stage(0); crash(0)"}) {
                for (int slot = 0; slot < mix.length(); slot++) {
                    probeOne(mix, Mix.run(mix) + then, slot);
                }
            }
        }
    }

    private static void probeOne(String mix, String run, int slot) {
        ParallelCommit x = Call.made(8, Call.parse(run));
        String name = "probe(0, " + slot + ") of " + mix;
        switch (mix.charAt(slot)) {
            case 'A' -> due.call(x, name, () -> x.probe(0, slot), ParallelCommit.SLOT_AT_TS);
            case 'P' -> due.call(x, name, () -> x.probe(0, slot), ParallelCommit.SLOT_PUSHED);
            default -> {
                due.call(x, name, () -> x.probe(0, slot), ParallelCommit.SLOT_PREVENTED,
                    "tsCache(" + Mix.key(slot) + ")=10", "slotState(0, " + slot + ")=2");
                due.is("deliver after " + name, x.deliver(0, slot), ParallelCommit.SLOT_PUSHED);
                due.is("slotTs after " + name, x.slotTs(0, slot), 11);
            }
        }
        // A probe of a delivered slot changes nothing, and that is no more than a refused call does.
        if (mix.charAt(slot) != '-') {
            int answer = mix.charAt(slot) == 'A' ? ParallelCommit.SLOT_AT_TS : ParallelCommit.SLOT_PUSHED;
            due.refused(run, "probe(0, " + slot + ")", answer);
        }
    }

    private static void examinesItsConditionsInOrder() {
        String staged = Mix.run("A-") + "; stage(0)";
        String[] others = {"begin(10)", Mix.run("A-"), Mix.run("A-") + "; crash(0)", Mix.run("A-") + "; rollback(0)",
            staged + "; recover(0)", Mix.run("AA") + "; stage(0); finalize(0)"};
        for (String run : others) {
            for (int slot = -1; slot <= 4; slot++) {
                due.refused(run, "probe(0, " + slot + ")", ParallelCommit.ERR_STATE);
                due.refused(run, "probe(1, " + slot + ")", ParallelCommit.ERR_NO_TXN);
            }
        }
        for (int slot : new int[] {Integer.MIN_VALUE, -1, 2, 3, 4, Integer.MAX_VALUE}) {
            due.refused(staged, "probe(0, " + slot + ")", ParallelCommit.ERR_ARG);
            due.refused(staged + "; crash(0)", "probe(0, " + slot + ")", ParallelCommit.ERR_ARG);
            due.refused(staged, "probe(1, " + slot + ")", ParallelCommit.ERR_NO_TXN);
            due.refused(staged, "probe(-1, " + slot + ")", ParallelCommit.ERR_NO_TXN);
        }
    }

    private static void preventsAtTheEdges() {
        for (int ts : new int[] {1, 1000000}) {
            String run = "begin(" + ts + "); addWrite(0, 3, 1); stage(0)";
            due.answers(run, "probe(0, 0)", ParallelCommit.SLOT_PREVENTED);
            due.answers(run + "; probe(0, 0)", "tsCache(3)", ts);
            due.answers(run + "; probe(0, 0); deliver(0, 0)", "slotTs(0, 0)", ts + 1);
            due.answers(run + "; probe(0, 0)", "isImplicitlyCommitted(0)", 0);
            due.answers(run + "; probe(0, 0)", "status(0)", ParallelCommit.ST_STAGING);
        }
    }
}
