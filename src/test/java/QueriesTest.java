/** Promises 12 to 17: the calls that change nothing. */
public final class QueriesTest {
    private static final Due due = new Due();

    public static void main(String[] args) {
        status();
        isAlive();
        slotState();
        slotTs();
        isImplicitlyCommitted();
        tsCache();
        changeNothing();
        answerInAnyStatus();
        slotStateAroundTheFloor();
        decisionsFitTheImplicitCommit();
        implicitCommitStays();
        tsCacheStaysInItsRange();
        due.end();
    }

    private static void status() {
        ParallelCommit x = new ParallelCommit(8);
        x.begin(10);
        Due.writer(x, 10, 0);
        x.stage(1);
        Due.committed(x, 10, 1);
        x.begin(10);
        x.rollback(3);
        due.is("status(0)", x.status(0), ParallelCommit.ST_PENDING);
        due.is("status(1)", x.status(1), ParallelCommit.ST_STAGING);
        due.is("status(2)", x.status(2), ParallelCommit.ST_COMMITTED);
        due.is("status(3)", x.status(3), ParallelCommit.ST_ABORTED);
        due.is("status(4)", x.status(4), ParallelCommit.ST_FREE);
        for (int wild : Due.WILD) {
            due.is("status(" + wild + ")", x.status(wild), ParallelCommit.ST_FREE);
        }
    }

    private static void isAlive() {
        ParallelCommit x = new ParallelCommit(8);
        x.begin(10);
        x.begin(10);
        x.crash(0);
        due.is("isAlive(0)", x.isAlive(0), false);
        due.is("isAlive(1)", x.isAlive(1), true);
        due.is("isAlive(2)", x.isAlive(2), false);
        x.rollback(1);
        due.is("isAlive(1), aborted", x.isAlive(1), true);
        Due.committed(x, 10, 0);
        due.is("isAlive(2), committed", x.isAlive(2), true);
        for (int wild : Due.WILD) {
            due.is("isAlive(" + wild + ")", x.isAlive(wild), false);
        }
    }

    private static void slotState() {
        ParallelCommit x = new ParallelCommit(8);
        Due.writer(x, 10, 0, 1, 2, 3);
        due.is("slotState(0, 0)", x.slotState(0, 0), ParallelCommit.SLOT_INFLIGHT);
        x.read(0, 9);
        due.is("slotState(0, 0), read below", x.slotState(0, 0), ParallelCommit.SLOT_INFLIGHT);
        x.read(0, 10);
        due.is("slotState(0, 0), read at", x.slotState(0, 0), ParallelCommit.SLOT_PREVENTED);
        x.read(1, 11);
        due.is("slotState(0, 1), read above", x.slotState(0, 1), ParallelCommit.SLOT_PREVENTED);
        Due.writer(x, 10, 2);
        x.stage(1);
        x.deliver(1, 0);
        due.is("slotState(0, 2), another's intent", x.slotState(0, 2), ParallelCommit.SLOT_INFLIGHT);
        x.finalize(1);
        due.is("slotState(0, 2), a version at", x.slotState(0, 2), ParallelCommit.SLOT_PREVENTED);
        Due.committed(x, 9, 3);
        due.is("slotState(0, 3), a version below", x.slotState(0, 3), ParallelCommit.SLOT_INFLIGHT);
        x.deliver(0, 3);
        x.deliver(0, 0);
        due.is("slotState(0, 3), delivered", x.slotState(0, 3), ParallelCommit.SLOT_AT_TS);
        due.is("slotState(0, 0), delivered", x.slotState(0, 0), ParallelCommit.SLOT_PUSHED);
        x.rollback(0);
        due.is("slotState(0, 3), aborted", x.slotState(0, 3), ParallelCommit.SLOT_AT_TS);
        due.is("slotState(0, 1), aborted", x.slotState(0, 1), ParallelCommit.SLOT_PREVENTED);
        x.read(3, 500);
        due.is("slotState(0, 3), read since", x.slotState(0, 3), ParallelCommit.SLOT_AT_TS);
        due.is("slotState(1, 0), committed", x.slotState(1, 0), ParallelCommit.SLOT_AT_TS);
        due.is("slotState(1, 1)", x.slotState(1, 1), ParallelCommit.ERR_ARG);
        for (int wild : Due.WILD) {
            due.is("slotState(" + wild + ", 0)", x.slotState(wild, 0), ParallelCommit.ERR_NO_TXN);
            due.is("slotState(" + wild + ", 99)", x.slotState(wild, 99), ParallelCommit.ERR_NO_TXN);
            due.is("slotState(0, " + wild + ")", x.slotState(0, wild), ParallelCommit.ERR_ARG);
        }
    }

    private static void slotTs() {
        ParallelCommit x = new ParallelCommit(8);
        x.read(1, 40);
        Due.writer(x, 10, 0, 1, 2);
        x.deliver(0, 0);
        x.deliver(0, 1);
        for (int round = 0; round < 2; round++) {
            due.is("slotTs(0, 0)", x.slotTs(0, 0), 10);
            due.is("slotTs(0, 1)", x.slotTs(0, 1), 41);
            due.is("slotTs(0, 2)", x.slotTs(0, 2), 0);
            due.is("slotTs(0, 3)", x.slotTs(0, 3), ParallelCommit.ERR_ARG);
            due.is("slotTs(1, 0)", x.slotTs(1, 0), ParallelCommit.ERR_NO_TXN);
            x.recover(0);
        }
        for (int wild : Due.WILD) {
            due.is("slotTs(" + wild + ", 0)", x.slotTs(wild, 0), ParallelCommit.ERR_NO_TXN);
            due.is("slotTs(" + wild + ", 99)", x.slotTs(wild, 99), ParallelCommit.ERR_NO_TXN);
            due.is("slotTs(0, " + wild + ")", x.slotTs(0, wild), ParallelCommit.ERR_ARG);
        }
    }

    private static void isImplicitlyCommitted() {
        ParallelCommit x = new ParallelCommit(8);
        x.begin(10);
        due.is("isImplicitlyCommitted(0), no slot", x.isImplicitlyCommitted(0), false);
        x.addWrite(0, 0, 1);
        x.addWrite(0, 1, 1);
        x.stage(0);
        due.is("isImplicitlyCommitted(0), staged", x.isImplicitlyCommitted(0), false);
        x.deliver(0, 1);
        due.is("isImplicitlyCommitted(0), one delivered", x.isImplicitlyCommitted(0), false);
        x.deliver(0, 0);
        due.is("isImplicitlyCommitted(0), both delivered", x.isImplicitlyCommitted(0), true);
        x.read(0, 5);
        x.probe(0, 0);
        x.crash(0);
        due.is("isImplicitlyCommitted(0), probed and dead", x.isImplicitlyCommitted(0), true);
        x.recover(0);
        due.is("isImplicitlyCommitted(0), committed", x.isImplicitlyCommitted(0), true);
        Due.writer(x, 20, 2);
        x.deliver(1, 0);
        due.is("isImplicitlyCommitted(1), not staged", x.isImplicitlyCommitted(1), false);
        x.rollback(1);
        due.is("isImplicitlyCommitted(1), aborted", x.isImplicitlyCommitted(1), false);
        x.read(3, 30);
        Due.committed(x, 30, 3, 4);
        due.is("status(2), pushed", x.status(2), ParallelCommit.ST_ABORTED);
        due.is("isImplicitlyCommitted(2), pushed", x.isImplicitlyCommitted(2), false);
        for (int wild : Due.WILD) {
            due.is("isImplicitlyCommitted(" + wild + ")", x.isImplicitlyCommitted(wild), false);
        }
        due.is("isImplicitlyCommitted(3)", x.isImplicitlyCommitted(3), false);
    }

    private static void tsCache() {
        ParallelCommit x = new ParallelCommit(8);
        for (int key = 0; key < 16; key++) {
            x.read(key, 1 + key);
        }
        for (int key = 0; key < 16; key++) {
            due.is("tsCache(" + key + ")", x.tsCache(key), 1 + key);
        }
        x.read(15, 1000000);
        due.is("tsCache(15)", x.tsCache(15), 1000000);
        Due.committed(x, 50, 0);
        due.is("tsCache(0) after a commit", x.tsCache(0), 1);
        for (int wild : Due.WILD) {
            due.is("tsCache(" + wild + ")", x.tsCache(wild), ParallelCommit.ERR_ARG);
        }
    }

    private static void changeNothing() {
        ParallelCommit x = new ParallelCommit(8);
        Due.writer(x, 10, 0, 1);
        x.read(1, 10);
        x.stage(0);
        for (int round = 0; round < 3; round++) {
            due.call(x, "the queries", () -> Due.facts(x).size(), 9 * 13 + 16);
        }
        due.is("deliver(0, 0) after the queries", x.deliver(0, 0), ParallelCommit.SLOT_AT_TS);
        due.is("deliver(0, 1) after the queries", x.deliver(0, 1), ParallelCommit.SLOT_PUSHED);
        due.is("slotTs(0, 1)", x.slotTs(0, 1), 11);
        due.is("begin after the queries", x.begin(4), 1);
    }

    /** Every mix of slots in every status, with a live and a dead coordinator, and each argument just outside. */
    private static void answerInAnyStatus() {
        String[] ways = {"", "; stage(0)", "; rollback(0)", "; recover(0)", "; stage(0); recover(0)", "; stage(0); finalize(0)"};
        for (String mix : Mix.all()) {
            for (String way : ways) {
                for (String dead : new String[] {"", "; crash(0)"}) {
                    answerAsDue(mix, way, Call.made(8, Call.parse(Mix.run(mix) + way + dead)), dead.isEmpty());
                }
            }
        }
    }

    private static void answerAsDue(String mix, String way, ParallelCommit x, boolean alive) {
        String of = " of " + mix + way;
        boolean staged = way.startsWith("; stage");
        boolean finalized = way.endsWith("finalize(0)") && Mix.allDelivered(mix);
        boolean decided = finalized || way.endsWith("recover(0)") || way.endsWith("rollback(0)");
        int undecided = staged ? ParallelCommit.ST_STAGING : ParallelCommit.ST_PENDING;
        int decision = staged && Mix.allAtTs(mix) ? ParallelCommit.ST_COMMITTED : ParallelCommit.ST_ABORTED;
        due.is("status(0)" + of, x.status(0), decided ? decision : undecided);
        due.is("isAlive(0)" + of, x.isAlive(0), alive);
        due.is("isImplicitlyCommitted(0)" + of, x.isImplicitlyCommitted(0), staged && Mix.allAtTs(mix));
        boolean prevented = way.equals("; stage(0); recover(0)");
        for (int slot = 0; slot < mix.length(); slot++) {
            char letter = mix.charAt(slot);
            int notDelivered = prevented ? ParallelCommit.SLOT_PREVENTED : ParallelCommit.SLOT_INFLIGHT;
            int delivered = letter == 'A' ? ParallelCommit.SLOT_AT_TS : ParallelCommit.SLOT_PUSHED;
            due.is("slotState(0, " + slot + ")" + of, x.slotState(0, slot), letter == '-' ? notDelivered : delivered);
            due.is("slotTs(0, " + slot + ")" + of, x.slotTs(0, slot), Mix.placed(letter));
        }
        for (int slot : new int[] {Integer.MIN_VALUE, -1, mix.length(), 4, Integer.MAX_VALUE}) {
            due.is("slotState(0, " + slot + ")" + of, x.slotState(0, slot), ParallelCommit.ERR_ARG);
            due.is("slotTs(0, " + slot + ")" + of, x.slotTs(0, slot), ParallelCommit.ERR_ARG);
        }
        for (int txn : new int[] {Integer.MIN_VALUE, -1, 1, 8, Integer.MAX_VALUE}) {
            due.is("status(" + txn + ")" + of, x.status(txn), ParallelCommit.ST_FREE);
            due.is("isAlive(" + txn + ")" + of, x.isAlive(txn), false);
            due.is("isImplicitlyCommitted(" + txn + ")" + of, x.isImplicitlyCommitted(txn), false);
            due.is("slotState(" + txn + ", 0)" + of, x.slotState(txn, 0), ParallelCommit.ERR_NO_TXN);
            due.is("slotState(" + txn + ", -1)" + of, x.slotState(txn, -1), ParallelCommit.ERR_NO_TXN);
            due.is("slotTs(" + txn + ", 0)" + of, x.slotTs(txn, 0), ParallelCommit.ERR_NO_TXN);
            due.is("slotTs(" + txn + ", -1)" + of, x.slotTs(txn, -1), ParallelCommit.ERR_NO_TXN);
        }
        for (int key : Due.WILD) {
            due.is("tsCache(" + key + ")" + of, x.tsCache(key), ParallelCommit.ERR_ARG);
        }
    }

    /** "floor(key(slot)) >= ts(txn)", the floor by a read, a version and a prevention, in any status of the slot's own. */
    private static void slotStateAroundTheFloor() {
        for (int floor : new int[] {1, 9, 10, 11, 1000000}) {
            String read = "begin(5); read(3, " + floor + ")";
            String version = "begin(" + floor + "); addWrite(0, 3, 1); deliver(0, 0); stage(0); finalize(0)";
            String probed = "begin(" + floor + "); addWrite(0, 3, 1); stage(0); probe(0, 0)";
            int want = floor >= 10 ? ParallelCommit.SLOT_PREVENTED : ParallelCommit.SLOT_INFLIGHT;
            for (String run : new String[] {read, version, probed}) {
                for (String status : new String[] {"", "; stage(1)", "; rollback(1)", "; recover(1)", "; crash(1)"}) {
                    String more = run + "; begin(10); addWrite(1, 3, 2)" + status;
                    due.answers(more, "slotState(1, 0)", want);
                    due.answers(more, "slotTs(1, 0)", 0);
                }
            }
        }
        String delivered = "begin(10); addWrite(0, 3, 1); deliver(0, 0); begin(20); addWrite(1, 3, 1); stage(1); probe(1, 0)";
        due.answers(delivered, "slotState(0, 0)", ParallelCommit.SLOT_AT_TS);
        due.answers(delivered, "slotTs(0, 0)", 10);
    }

    /** What became committed is implicitly committed, what became aborted is not, in each way of deciding. */
    private static void decisionsFitTheImplicitCommit() {
        String[] ways = {"; rollback(0)", "; recover(0)", "; stage(0); recover(0)", "; stage(0); finalize(0)"};
        for (String mix : Mix.all()) {
            for (String way : ways) {
                ParallelCommit x = Call.made(8, Call.parse(Mix.run(mix) + way));
                if (x.status(0) == ParallelCommit.ST_COMMITTED) {
                    due.is("isImplicitlyCommitted(0) of " + mix + way + ", committed", x.isImplicitlyCommitted(0), true);
                } else if (x.status(0) == ParallelCommit.ST_ABORTED) {
                    due.is("isImplicitlyCommitted(0) of " + mix + way + ", aborted", x.isImplicitlyCommitted(0), false);
                }
            }
        }
    }

    /** After any two more calls what was implicitly committed still is, is not aborted, and its values can be read. */
    private static void implicitCommitStays() {
        String[] calls = {"addWrite(0, 1, 1)", "stage(0)", "deliver(0, 0)", "deliver(0, 1)", "deliver(1, 0)", "finalize(0)",
            "finalize(1)", "rollback(0)", "rollback(1)", "crash(0)", "probe(0, 0)", "probe(0, 1)", "probe(1, 0)", "stage(1)",
            "recover(0)", "recover(1)", "read(0, 9)", "read(0, 10)", "read(5, 1000000)", "begin(10)", "addWrite(1, 5, 3)"};
        String run = Mix.run("AA") + "; stage(0); begin(20); addWrite(1, 0, 50)";
        for (String first : calls) {
            for (String second : calls) {
                String whole = run + "; " + first + "; " + second;
                ParallelCommit x = Call.made(8, Call.parse(whole));
                due.is("isImplicitlyCommitted(0) after " + whole, x.isImplicitlyCommitted(0), true);
                due.is("status(0) after " + whole + " is aborted", x.status(0) == ParallelCommit.ST_ABORTED, false);
                x.recover(0);
                due.is("status(0) in the end of " + whole, x.status(0), ParallelCommit.ST_COMMITTED);
                due.is("isImplicitlyCommitted(0) in the end of " + whole, x.isImplicitlyCommitted(0), true);
                due.is("read(0, 10) in the end of " + whole, x.read(0, 10), Mix.value(0));
                due.is("read(5, 10) in the end of " + whole, x.read(5, 10), Mix.value(1));
            }
        }
    }

    private static void tsCacheStaysInItsRange() {
        for (int key = 0; key < 16; key++) {
            String pushed = "begin(1000000); addWrite(0, " + key + ", 1); stage(0); probe(0, 0); deliver(0, 0)";
            due.answers("", "tsCache(" + key + ")", 0);
            due.answers("read(" + key + ", 0); read(" + key + ", 1000001)", "tsCache(" + key + ")", 0);
            due.answers("read(" + key + ", 1)", "tsCache(" + key + ")", 1);
            due.answers("read(" + key + ", 1000000)", "tsCache(" + key + ")", 1000000);
            due.answers(pushed, "tsCache(" + key + ")", 1000000);
            due.answers(pushed + "; finalize(0); read(" + key + ", 1000000)", "tsCache(" + key + ")", 1000000);
        }
        for (int key : Due.WILD) {
            due.refused("read(0, 5); read(15, 6)", "tsCache(" + key + ")", ParallelCommit.ERR_ARG);
        }
    }
}
