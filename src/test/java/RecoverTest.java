/** Promise 10: recover. */
public final class RecoverTest {
    private static final Due due = new Due();

    public static void main(String[] args) {
        abortsAPendingOne();
        commitsAnImplicitlyCommittedOne();
        preventsEverySlotNotDelivered();
        abortsAPushedOne();
        refuses();
        abortsEveryPendingOne();
        decidesByEverySlot();
        raisedCachesStayRaised();
        refusesWhatIsDecided();
        due.end();
    }

    private static void abortsAPendingOne() {
        ParallelCommit x = new ParallelCommit(8);
        Due.writer(x, 10, 0, 1);
        x.deliver(0, 0);
        due.call(x, "recover(0), pending", () -> x.recover(0), ParallelCommit.ST_ABORTED, "status(0)=4");
        due.is("read(0, 20)", x.read(0, 20), ParallelCommit.READ_NONE);
        Due.writer(x, 30, 2);
        x.deliver(1, 0);
        x.crash(1);
        due.call(x, "recover(1), pending, delivered and dead", () -> x.recover(1), ParallelCommit.ST_ABORTED, "status(1)=4");
        x.begin(10);
        due.call(x, "recover(2), without a slot", () -> x.recover(2), ParallelCommit.ST_ABORTED, "status(2)=4");
    }

    private static void commitsAnImplicitlyCommittedOne() {
        ParallelCommit x = new ParallelCommit(8);
        Due.writer(x, 10, 0, 1, 2, 3);
        Due.deliverAll(x, 0);
        x.stage(0);
        due.call(x, "recover(0), alive", () -> x.recover(0), ParallelCommit.ST_COMMITTED, "status(0)=3");
        Due.writer(x, 20, 0, 1);
        x.stage(1);
        Due.deliverAll(x, 1);
        x.crash(1);
        due.call(x, "recover(1), dead", () -> x.recover(1), ParallelCommit.ST_COMMITTED, "status(1)=3");
        due.is("read(0, 15)", x.read(0, 15), 100);
        due.is("read(3, 15)", x.read(3, 15), 103);
        due.is("read(1, 25)", x.read(1, 25), 101);
    }

    private static void preventsEverySlotNotDelivered() {
        ParallelCommit x = new ParallelCommit(8);
        x.read(3, 50);
        x.read(2, 4);
        Due.writer(x, 10, 0, 1, 2, 3);
        x.deliver(0, 1);
        x.stage(0);
        due.call(x, "recover(0), three under way", () -> x.recover(0), ParallelCommit.ST_ABORTED, "status(0)=4",
            "tsCache(0)=10", "tsCache(2)=10", "slotState(0, 0)=2", "slotState(0, 2)=2");
        due.is("tsCache(1)", x.tsCache(1), 0);
        due.is("slotTs(0, 1)", x.slotTs(0, 1), 10);
        due.is("slotTs(0, 0)", x.slotTs(0, 0), 0);
        Due.writer(x, 10, 0, 1);
        due.is("deliver(1, 0) on a key prevented at its timestamp", x.deliver(1, 0), ParallelCommit.SLOT_PUSHED);
        due.is("deliver(1, 1) on a key that was not", x.deliver(1, 1), ParallelCommit.SLOT_AT_TS);
    }

    private static void abortsAPushedOne() {
        ParallelCommit x = new ParallelCommit(8);
        x.read(0, 10);
        Due.writer(x, 10, 0, 1);
        Due.deliverAll(x, 0);
        x.stage(0);
        due.call(x, "recover(0), one pushed", () -> x.recover(0), ParallelCommit.ST_ABORTED, "status(0)=4");
        due.is("read(1, 20)", x.read(1, 20), ParallelCommit.READ_NONE);
        Due.writer(x, 30, 0, 1);
        x.read(0, 30);
        x.deliver(1, 0);
        x.stage(1);
        due.call(x, "recover(1), one pushed before one under way", () -> x.recover(1), ParallelCommit.ST_ABORTED,
            "status(1)=4", "tsCache(1)=30", "slotState(1, 1)=2");
    }

    private static void refuses() {
        ParallelCommit x = new ParallelCommit(8);
        Due.writer(x, 10, 0);
        for (int wild : Due.WILD) {
            due.call(x, "recover(" + wild + ")", () -> x.recover(wild), ParallelCommit.ERR_NO_TXN);
        }
        due.call(x, "recover(1), the next id", () -> x.recover(1), ParallelCommit.ERR_NO_TXN);
        x.rollback(0);
        due.call(x, "recover(0), aborted with one under way", () -> x.recover(0), ParallelCommit.ERR_STATE);
        Due.committed(x, 10, 1);
        due.call(x, "recover(1), committed", () -> x.recover(1), ParallelCommit.ERR_STATE);
        due.is("read(1, 10)", x.read(1, 10), 101);
    }

    /** "no slot is prevented": of all that can be seen the status alone changes. */
    private static void abortsEveryPendingOne() {
        for (String mix : Mix.all()) {
            for (String dead : new String[] {"", "; crash(0)"}) {
                ParallelCommit x = Call.made(8, Call.parse(Mix.run(mix) + dead));
                due.call(x, "recover(0) of " + mix + ", pending", () -> x.recover(0), ParallelCommit.ST_ABORTED, "status(0)=4");
                for (int slot = 0; slot < mix.length(); slot++) {
                    due.is("read(" + Mix.key(slot) + ", 20) of " + mix, x.read(Mix.key(slot), 20), ParallelCommit.READ_NONE);
                }
            }
        }
    }

    /** "(no early stop)": every slot that is not delivered is prevented, wherever it stands among the others. */
    private static void decidesByEverySlot() {
        for (String mix : Mix.all()) {
            for (String dead : new String[] {"", "; crash(0)"}) {
                ParallelCommit x = Call.made(8, Call.parse(Mix.run(mix) + "; stage(0)" + dead));
                boolean commits = Mix.allAtTs(mix);
                int decision = commits ? ParallelCommit.ST_COMMITTED : ParallelCommit.ST_ABORTED;
                due.is("recover(0) of " + mix, x.recover(0), decision);
                due.is("status(0) of " + mix, x.status(0), decision);
                due.is("isAlive(0) of " + mix, x.isAlive(0), dead.isEmpty());
                for (int slot = 0; slot < mix.length(); slot++) {
                    char letter = mix.charAt(slot);
                    int key = Mix.key(slot);
                    due.is("tsCache(" + key + ") of " + mix, x.tsCache(key), letter == '-' ? 10 : Mix.cached(letter));
                    due.is("slotTs(0, " + slot + ") of " + mix, x.slotTs(0, slot), Mix.placed(letter));
                    int value = commits ? Mix.value(slot) : ParallelCommit.READ_NONE;
                    due.is("read(" + key + ", 20) of " + mix, x.read(key, 20), value);
                }
                due.is("tsCache(1) of " + mix, x.tsCache(1), 0);
            }
        }
    }

    private static void raisedCachesStayRaised() {
        // Raised above the intent of 0 by the recovery of 1, which the recovery of 0 as committed leaves as it is.
        String run = "begin(10); addWrite(0, 3, 1); deliver(0, 0); stage(0); begin(20); addWrite(1, 3, 2); stage(1); recover(1)";
        due.answers(run, "tsCache(3)", 20);
        due.answers(run, "recover(0)", ParallelCommit.ST_COMMITTED);
        due.answers(run + "; recover(0)", "tsCache(3)", 20);
        String low = "read(3, 4); begin(10); addWrite(0, 3, 1); deliver(0, 0); stage(0)";
        due.answers(low + "; recover(0)", "status(0)", ParallelCommit.ST_COMMITTED);
        due.answers(low + "; recover(0)", "tsCache(3)", 4);
        for (int read : new int[] {9, 10, 11}) {
            String aborted = "begin(10); addWrite(0, 3, 1); stage(0); read(3, " + read + ")";
            due.answers(aborted + "; recover(0)", "status(0)", ParallelCommit.ST_ABORTED);
            due.answers(aborted + "; recover(0)", "tsCache(3)", Math.max(read, 10));
        }
    }

    private static void refusesWhatIsDecided() {
        for (String mix : new String[] {"A", "P", "-", "AAAA", "AP-A", "----"}) {
            for (String status : new String[] {"; rollback(0)", "; recover(0)", "; stage(0); recover(0)"}) {
                due.refused(Mix.run(mix) + status, "recover(0)", ParallelCommit.ERR_STATE);
                due.refused(Mix.run(mix) + status + "; crash(0)", "recover(0)", ParallelCommit.ERR_STATE);
                due.refused(Mix.run(mix) + status, "recover(1)", ParallelCommit.ERR_NO_TXN);
            }
        }
        due.refused(Mix.run("AAAA") + "; stage(0); finalize(0)", "recover(0)", ParallelCommit.ERR_STATE);
        due.refused(Mix.run("AAAP") + "; stage(0); finalize(0)", "recover(0)", ParallelCommit.ERR_STATE);
        due.refused("begin(10); rollback(0)", "recover(0)", ParallelCommit.ERR_STATE);
    }
}
