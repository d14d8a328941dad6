/** Promise 5: deliver. */
public final class DeliverTest {
    private static final Due due = new Due();

    public static void main(String[] args) {
        deliversAtTs();
        refusesWrongArguments();
        refusesWhatIsDeliveredOrDecided();
        refusesABusyKey();
        pushesAboveAReadOrAVersion();
        pushesAPreventedSlot();
        pushesUpToTheEdge();
        worksInEachUndecidedStatus();
        examinesItsConditionsInOrder();
        refusesEverySlotTwice();
        pushesWhatIsAtOrAbove();
        neverWraps();
        due.end();
    }

    private static void deliversAtTs() {
        ParallelCommit x = new ParallelCommit(8);
        Due.writer(x, 10, 0, 5);
        due.call(x, "deliver(0, 1), pending", () -> x.deliver(0, 1), ParallelCommit.SLOT_AT_TS,
            "slotState(0, 1)=3", "slotTs(0, 1)=10");
        x.stage(0);
        x.crash(0);
        due.call(x, "deliver(0, 0), staged and dead", () -> x.deliver(0, 0), ParallelCommit.SLOT_AT_TS,
            "slotState(0, 0)=3", "slotTs(0, 0)=10", "isImplicitlyCommitted(0)=1");
        Due.writer(x, 10, 1);
        x.crash(1);
        due.call(x, "deliver(1, 0), pending and dead", () -> x.deliver(1, 0), ParallelCommit.SLOT_AT_TS,
            "slotState(1, 0)=3", "slotTs(1, 0)=10");
        due.is("read(1, 10)", x.read(1, 10), ParallelCommit.READ_BLOCKED);
        due.is("read(2, 10)", x.read(2, 10), ParallelCommit.READ_NONE);
    }

    private static void refusesWrongArguments() {
        ParallelCommit x = new ParallelCommit(8);
        Due.writer(x, 10, 0, 1);
        Due.writer(x, 10, 2);
        for (int wild : Due.WILD) {
            due.call(x, "deliver(" + wild + ", 0)", () -> x.deliver(wild, 0), ParallelCommit.ERR_NO_TXN);
            due.call(x, "deliver(0, " + wild + ")", () -> x.deliver(0, wild), ParallelCommit.ERR_ARG);
        }
        due.call(x, "deliver(2, 0), the next id", () -> x.deliver(2, 0), ParallelCommit.ERR_NO_TXN);
        due.call(x, "deliver(2, 9), the next id", () -> x.deliver(2, 9), ParallelCommit.ERR_NO_TXN);
        due.call(x, "deliver(0, 2), the next slot", () -> x.deliver(0, 2), ParallelCommit.ERR_ARG);
        due.call(x, "deliver(0, 4), another's cell", () -> x.deliver(0, 4), ParallelCommit.ERR_ARG);
        due.call(x, "deliver(1, -4), another's cell", () -> x.deliver(1, -4), ParallelCommit.ERR_ARG);
        x.rollback(0);
        due.call(x, "deliver(0, 2), decided", () -> x.deliver(0, 2), ParallelCommit.ERR_ARG);
    }

    private static void refusesWhatIsDeliveredOrDecided() {
        ParallelCommit x = new ParallelCommit(8);
        Due.writer(x, 10, 0, 1);
        x.deliver(0, 0);
        due.call(x, "deliver(0, 0) again", () -> x.deliver(0, 0), ParallelCommit.ERR_DUP);
        x.rollback(0);
        due.call(x, "deliver(0, 0) again, aborted", () -> x.deliver(0, 0), ParallelCommit.ERR_DUP);
        due.call(x, "deliver(0, 1), aborted", () -> x.deliver(0, 1), ParallelCommit.ERR_STATE);
        Due.committed(x, 10, 2);
        due.call(x, "deliver(1, 0) again, committed", () -> x.deliver(1, 0), ParallelCommit.ERR_DUP);
        Due.writer(x, 20, 0, 1);
        Due.deliverAll(x, 2);
        due.call(x, "deliver(0, 1), aborted, on a busy key", () -> x.deliver(0, 1), ParallelCommit.ERR_STATE);
        due.call(x, "deliver(0, 0) again, aborted, on a busy key", () -> x.deliver(0, 0), ParallelCommit.ERR_DUP);
    }

    private static void refusesABusyKey() {
        ParallelCommit x = new ParallelCommit(8);
        Due.writer(x, 10, 3);
        Due.writer(x, 20, 4, 3);
        Due.writer(x, 5, 3);
        x.deliver(1, 1);
        due.call(x, "deliver(0, 0) on a later one's intent", () -> x.deliver(0, 0), ParallelCommit.ERR_BUSY);
        due.call(x, "deliver(2, 0) on an earlier id's intent", () -> x.deliver(2, 0), ParallelCommit.ERR_BUSY);
        due.call(x, "deliver(1, 0), its own other key", () -> x.deliver(1, 0), ParallelCommit.SLOT_AT_TS,
            "slotState(1, 0)=3", "slotTs(1, 0)=20");
        x.stage(1);
        due.call(x, "deliver(0, 0) on a staged one's intent", () -> x.deliver(0, 0), ParallelCommit.ERR_BUSY);
        x.crash(1);
        due.call(x, "deliver(0, 0) on a dead one's intent", () -> x.deliver(0, 0), ParallelCommit.ERR_BUSY);
        x.recover(1);
        due.call(x, "deliver(0, 0) after the commit at 20", () -> x.deliver(0, 0), ParallelCommit.SLOT_PUSHED,
            "slotState(0, 0)=4", "slotTs(0, 0)=21");
        x.rollback(0);
        due.call(x, "deliver(2, 0) after the rollback of 21", () -> x.deliver(2, 0), ParallelCommit.SLOT_PUSHED,
            "slotState(2, 0)=4", "slotTs(2, 0)=21");
    }

    private static void pushesAboveAReadOrAVersion() {
        for (int ts = 1; ts <= 20; ts++) {
            int want = ts > 10 ? ts : 11;
            int state = ts > 10 ? ParallelCommit.SLOT_AT_TS : ParallelCommit.SLOT_PUSHED;
            ParallelCommit afterRead = new ParallelCommit(8);
            afterRead.read(6, 10);
            afterRead.read(6, 4);
            deliversTo(afterRead, "after a read at 10", ts, state, want);
            ParallelCommit afterCommit = new ParallelCommit(8);
            Due.committed(afterCommit, 3, 6);
            Due.committed(afterCommit, 10, 6);
            deliversTo(afterCommit, "after a commit at 10", ts, state, want);
        }
        ParallelCommit x = new ParallelCommit(8);
        Due.committed(x, 10, 6);
        x.read(6, 30);
        deliversTo(x, "after a commit at 10 and a read at 30", 20, ParallelCommit.SLOT_PUSHED, 31);
        ParallelCommit y = new ParallelCommit(8);
        y.read(6, 10);
        Due.committed(y, 30, 6);
        deliversTo(y, "after a read at 10 and a commit at 30", 20, ParallelCommit.SLOT_PUSHED, 31);
    }

    private static void deliversTo(ParallelCommit x, String when, int ts, int state, int placed) {
        int txn = Due.writer(x, ts, 6);
        due.is("deliver " + when + " at " + ts, x.deliver(txn, 0), state);
        due.is("slotTs " + when + " at " + ts, x.slotTs(txn, 0), placed);
    }

    private static void pushesAPreventedSlot() {
        ParallelCommit x = new ParallelCommit(8);
        Due.writer(x, 10, 6);
        x.stage(0);
        x.probe(0, 0);
        due.call(x, "deliver(0, 0), prevented", () -> x.deliver(0, 0), ParallelCommit.SLOT_PUSHED,
            "slotState(0, 0)=4", "slotTs(0, 0)=11");
        due.is("read(6, 10) below the pushed intent", x.read(6, 10), ParallelCommit.READ_NONE);
        due.is("read(6, 11) at the pushed intent", x.read(6, 11), ParallelCommit.READ_BLOCKED);
        ParallelCommit y = new ParallelCommit(8);
        Due.writer(y, 10, 6);
        Due.writer(y, 20, 6);
        y.deliver(0, 0);
        due.is("read(6, 30), blocked", y.read(6, 30), ParallelCommit.READ_BLOCKED);
        y.rollback(0);
        due.is("deliver after a blocked read", y.deliver(1, 0), ParallelCommit.SLOT_AT_TS);
    }

    private static void pushesUpToTheEdge() {
        ParallelCommit x = new ParallelCommit(8);
        x.read(0, 1000000);
        Due.writer(x, 1000000, 0);
        due.call(x, "deliver(0, 0) at the edge", () -> x.deliver(0, 0), ParallelCommit.SLOT_PUSHED,
            "slotState(0, 0)=4", "slotTs(0, 0)=1000001");
        due.is("read(0, 1000000) below it", x.read(0, 1000000), ParallelCommit.READ_NONE);
        ParallelCommit y = new ParallelCommit(8);
        y.read(0, 999999);
        Due.writer(y, 1000000, 0);
        due.is("deliver just above the floor", y.deliver(0, 0), ParallelCommit.SLOT_AT_TS);
    }

    private static void worksInEachUndecidedStatus() {
        for (String status : new String[] {"", "; crash(0)", "; stage(0)", "; stage(0); crash(0)", "; crash(0); stage(0)"}) {
            for (int slot = 0; slot < 4; slot++) {
                String run = Mix.run("----") + status;
                due.answers(run, "deliver(0, " + slot + ")", ParallelCommit.SLOT_AT_TS);
                due.answers(run + "; read(" + Mix.key(slot) + ", 10)", "deliver(0, " + slot + ")", ParallelCommit.SLOT_PUSHED);
            }
        }
    }

    private static void examinesItsConditionsInOrder() {
        String busy = "begin(10); addWrite(0, 3, 1); addWrite(0, 4, 1); begin(20); addWrite(1, 3, 2); addWrite(1, 4, 2)";
        due.refused(busy, "deliver(2, 2)", ParallelCommit.ERR_NO_TXN);
        due.refused(busy, "deliver(-1, -1)", ParallelCommit.ERR_NO_TXN);
        due.refused(busy + "; rollback(0)", "deliver(0, 2)", ParallelCommit.ERR_ARG);
        due.refused(busy + "; rollback(0)", "deliver(0, -1)", ParallelCommit.ERR_ARG);
        due.refused("begin(10)", "deliver(0, 0)", ParallelCommit.ERR_ARG);
        due.refused("begin(10); recover(0)", "deliver(0, 0)", ParallelCommit.ERR_ARG);
        String aborted = busy + "; deliver(0, 0); rollback(0)";
        due.refused(aborted, "deliver(0, 0)", ParallelCommit.ERR_DUP);
        due.refused(aborted, "deliver(0, 1)", ParallelCommit.ERR_STATE);
        due.refused(aborted + "; deliver(1, 0)", "deliver(0, 0)", ParallelCommit.ERR_DUP);
        due.refused(aborted + "; deliver(1, 1)", "deliver(0, 1)", ParallelCommit.ERR_STATE);
        due.refused(busy + "; stage(0); recover(0); deliver(1, 1)", "deliver(0, 1)", ParallelCommit.ERR_STATE);
        String committed = busy + "; deliver(0, 0); deliver(0, 1); stage(0); finalize(0)";
        due.refused(committed, "deliver(0, 0)", ParallelCommit.ERR_DUP);
        due.refused(committed + "; deliver(1, 0)", "deliver(0, 0)", ParallelCommit.ERR_DUP);
        due.refused(busy + "; deliver(1, 0)", "deliver(0, 0)", ParallelCommit.ERR_BUSY);
        due.refused(busy + "; deliver(1, 0); stage(0); stage(1)", "deliver(0, 0)", ParallelCommit.ERR_BUSY);
        due.refused(busy + "; read(3, 30); deliver(1, 0)", "deliver(0, 0)", ParallelCommit.ERR_BUSY);
        due.answers(busy + "; deliver(1, 0)", "deliver(0, 1)", ParallelCommit.SLOT_AT_TS);
    }

    /** Delivered at ts or pushed, in any status: the second delivery is ERR_DUP. */
    private static void refusesEverySlotTwice() {
        String[] statuses = {"", "; crash(0)", "; stage(0)", "; rollback(0)", "; recover(0)", "; stage(0); recover(0)",
            "; stage(0); finalize(0)"};
        for (String mix : new String[] {"AAAA", "PPPP", "AP-A", "-PA-"}) {
            for (String status : statuses) {
                for (int slot = 0; slot < 4; slot++) {
                    if (mix.charAt(slot) != '-') {
                        due.refused(Mix.run(mix) + status, "deliver(0, " + slot + ")", ParallelCommit.ERR_DUP);
                    }
                }
            }
        }
    }

    /** Read, prevented or written at 10, and a transaction just below, at and just above it. */
    private static void pushesWhatIsAtOrAbove() {
        String read = "begin(5); read(3, 10)";
        String version = "begin(10); addWrite(0, 3, 1); deliver(0, 0); stage(0); finalize(0)";
        String probed = "begin(10); addWrite(0, 3, 1); stage(0); probe(0, 0)";
        String recovered = "begin(10); addWrite(0, 3, 1); stage(0); recover(0)";
        for (String run : new String[] {read, version, probed, recovered}) {
            for (int ts = 9; ts <= 12; ts++) {
                String more = run + "; begin(" + ts + "); addWrite(1, 3, 2)";
                due.answers(more, "deliver(1, 0)", ts > 10 ? ParallelCommit.SLOT_AT_TS : ParallelCommit.SLOT_PUSHED);
                due.answers(more + "; deliver(1, 0)", "slotTs(1, 0)", ts > 10 ? ts : 11);
            }
        }
        String aborted = "begin(10); addWrite(0, 3, 1); deliver(0, 0); rollback(0)";
        due.answers(aborted + "; begin(9); addWrite(1, 3, 2)", "deliver(1, 0)", ParallelCommit.SLOT_AT_TS);
        String blocked = "begin(10); addWrite(0, 3, 1); deliver(0, 0); read(3, 20); rollback(0)";
        due.answers(blocked + "; begin(10); addWrite(1, 3, 2)", "deliver(1, 0)", ParallelCommit.SLOT_AT_TS);
        String refusedRead = "begin(5); read(3, 0); read(3, 1000001); read(-1, 20); read(2, 20)";
        due.answers(refusedRead + "; begin(1); addWrite(1, 3, 2)", "deliver(1, 0)", ParallelCommit.SLOT_AT_TS);
    }

    /** The floor at MAX_TS, by a read, a version and a prevention, for the least and the greatest timestamp. */
    private static void neverWraps() {
        String read = "begin(5); read(3, 1000000)";
        String version = "begin(1000000); addWrite(0, 3, 1); deliver(0, 0); stage(0); finalize(0)";
        String probed = "begin(1000000); addWrite(0, 3, 1); stage(0); probe(0, 0)";
        for (String run : new String[] {read, version, probed}) {
            for (int ts : new int[] {1, 999999, 1000000}) {
                String more = run + "; begin(" + ts + "); addWrite(1, 3, 2)";
                due.answers(more, "deliver(1, 0)", ParallelCommit.SLOT_PUSHED);
                due.answers(more + "; deliver(1, 0)", "slotTs(1, 0)", 1000001);
                due.answers(more + "; deliver(1, 0)", "tsCache(3)", run.equals(version) ? 0 : 1000000);
                due.answers(more + "; deliver(1, 0)", "read(3, 1000000)", run.equals(version) ? 1 : ParallelCommit.READ_NONE);
                due.answers(more + "; deliver(1, 0); stage(1)", "finalize(1)", ParallelCommit.ST_ABORTED);
            }
            String again = run + "; begin(7); addWrite(1, 3, 2); deliver(1, 0); rollback(1); begin(8); addWrite(2, 3, 2)";
            due.answers(again + "; deliver(2, 0)", "slotTs(2, 0)", 1000001);
        }
        String below = "begin(5); read(3, 999999); begin(1000000); addWrite(1, 3, 2); deliver(1, 0)";
        due.answers(below, "slotTs(1, 0)", 1000000);
    }
}
