import java.util.ArrayList;
import java.util.List;

/** "State per key", "State per transaction" and "Derived notions": what they say of every key and every transaction. */
public final class KeyStateTest {
    private static final Due due = new Due();

    public static void main(String[] args) {
        theShardAffectsNoAnswer();
        theFloorIsZeroAtTheStart();
        theFloorIsTheGreatest();
        eightVersionsAreKept();
        noMoreThanOneIntent();
        everyDecisionTakesTheIntentsAway();
        decidedIsFinal();
        due.end();
    }

    private static void theShardAffectsNoAnswer() {
        String told = "begin(10); addWrite(0, K, 7); addWrite(0, L, 8); addWrite(0, K, 9); begin(12); addWrite(1, L, 5); "
            + "read(K, 4); deliver(0, 0); deliver(0, 1); deliver(1, 0); read(K, 9); read(K, 10); stage(0); finalize(0); "
            + "read(K, 20); read(L, 11); tsCache(K); tsCache(L); stage(1); slotState(1, 0); probe(1, 0); deliver(1, 0); "
            + "slotTs(1, 0); read(L, 12); read(L, 13); recover(1); read(L, 30); tsCache(L)";
        List<Integer> want = List.of(0, 0, 1, -6, 1, 0,
            -9, 3, 3, -7, -9, -10, 0, 3,
            7, 8, 20, 11, 0, 1, 2, 4,
            13, 8, -10, 4, 8, 30);
        for (int k = 0; k < 16; k++) {
            for (int l = 0; l < 16; l++) {
                List<Integer> got = k == l ? want : answers(told, k, l);
                if (!got.equals(want)) {
                    due.tell(told + " with the keys " + k + " and " + l + " answered " + got + ", due is " + want);
                }
            }
        }
    }

    private static List<Integer> answers(String told, int k, int l) {
        ParallelCommit x = new ParallelCommit(8);
        List<Integer> answers = new ArrayList<>();
        for (Call call : Call.parse(told.replace("K", "" + k).replace("L", "" + l))) {
            answers.add(call.on(x));
        }
        return answers;
    }

    private static void theFloorIsZeroAtTheStart() {
        for (int key = 0; key < 16; key++) {
            String run = "begin(1); addWrite(0, " + key + ", 1)";
            due.answers(run, "slotState(0, 0)", ParallelCommit.SLOT_INFLIGHT);
            due.answers(run, "deliver(0, 0)", ParallelCommit.SLOT_AT_TS);
            due.answers(run + "; deliver(0, 0)", "slotTs(0, 0)", 1);
        }
    }

    /** A read at 5, a version at 10 and a read at 15 make three floors, and so does each of them alone. */
    private static void theFloorIsTheGreatest() {
        String version = "; begin(10); addWrite(0, 3, 1); deliver(0, 0); stage(0); finalize(0)";
        floorIs("begin(1)", 0);
        floorIs("begin(1); read(3, 5)", 5);
        floorIs(version, 10);
        floorIs("read(3, 5)" + version, 10);
        floorIs("read(3, 9)" + version, 10);
        floorIs(version + "; read(3, 9)", 10);
        floorIs(version + "; read(3, 10)", 10);
        floorIs(version + "; read(3, 11)", 11);
        floorIs(version + "; read(3, 15); read(3, 12)", 15);
        floorIs(version + "; read(2, 15); read(4, 15)", 10);
    }

    private static void floorIs(String run, int floor) {
        for (int ts = 1; ts <= 20; ts++) {
            String more = run + "; begin(" + ts + "); addWrite(1, 3, 2)";
            boolean above = ts > floor;
            due.answers(more, "slotState(1, 0)", above ? ParallelCommit.SLOT_INFLIGHT : ParallelCommit.SLOT_PREVENTED);
            due.answers(more, "deliver(1, 0)", above ? ParallelCommit.SLOT_AT_TS : ParallelCommit.SLOT_PUSHED);
            due.answers(more + "; deliver(1, 0)", "slotTs(1, 0)", above ? ts : floor + 1);
        }
    }

    /** "It never holds more than 8 versions": the eighth is kept, and no ninth transaction can bring another. */
    private static void eightVersionsAreKept() {
        for (int key = 0; key < 16; key++) {
            ParallelCommit x = new ParallelCommit(Integer.MAX_VALUE);
            for (int txn = 0; txn < 8; txn++) {
                x.begin(10 + txn);
                x.addWrite(txn, key, 300 + txn);
                x.deliver(txn, 0);
                x.stage(txn);
                due.is("finalize(" + txn + ") on key " + key, x.finalize(txn), ParallelCommit.ST_COMMITTED);
            }
            due.is("a ninth begin", x.begin(30), ParallelCommit.ERR_FULL);
            for (int ts = 1; ts <= 20; ts++) {
                int want = ts < 10 ? ParallelCommit.READ_NONE : 300 + Math.min(ts - 10, 7);
                due.is("read(" + key + ", " + ts + ") with eight versions", x.read(key, ts), want);
                for (int other = 0; other < 16; other++) {
                    if (other != key) {
                        due.is("read(" + other + ", " + ts + ") without a version", x.read(other, ts), ParallelCommit.READ_NONE);
                    }
                }
            }
        }
    }

    private static String eightWriters() {
        StringBuilder run = new StringBuilder();
        for (int txn = 0; txn < 8; txn++) {
            run.append("begin(10); addWrite(" + txn + ", 6, " + txn + "); ");
        }
        return run.toString();
    }

    private static void noMoreThanOneIntent() {
        for (int first = 0; first < 8; first++) {
            String run = eightWriters() + "deliver(" + first + ", 0)";
            for (int other = 0; other < 8; other++) {
                if (other != first) {
                    due.refused(run, "deliver(" + other + ", 0)", ParallelCommit.ERR_BUSY);
                    due.answers(run + "; rollback(" + first + ")", "deliver(" + other + ", 0)", ParallelCommit.SLOT_AT_TS);
                    due.refused(run + "; rollback(" + other + ")", "deliver(" + other + ", 0)", ParallelCommit.ERR_STATE);
                }
            }
        }
    }

    private static void everyDecisionTakesTheIntentsAway() {
        String run = "begin(10); addWrite(0, 6, 7); addWrite(0, 9, 8); begin(11); addWrite(1, 9, 9); deliver(0, 1)";
        due.refused(run, "deliver(1, 0)", ParallelCommit.ERR_BUSY);
        due.refused(run, "read(9, 10)", ParallelCommit.READ_BLOCKED);
        String[] aborts = {"; rollback(0)", "; recover(0)", "; crash(0); recover(0)", "; stage(0); recover(0)",
            "; read(6, 10); deliver(0, 0); stage(0); finalize(0)"};
        for (String abort : aborts) {
            due.answers(run + abort, "status(0)", ParallelCommit.ST_ABORTED);
            due.answers(run + abort, "deliver(1, 0)", ParallelCommit.SLOT_AT_TS);
            due.answers(run + abort, "read(9, 10)", ParallelCommit.READ_NONE);
        }
        for (String commit : new String[] {"; deliver(0, 0); stage(0); finalize(0)", "; deliver(0, 0); stage(0); recover(0)"}) {
            due.answers(run + commit, "status(0)", ParallelCommit.ST_COMMITTED);
            due.answers(run + commit, "deliver(1, 0)", ParallelCommit.SLOT_AT_TS);
            due.answers(run + commit, "read(9, 10)", 8);
            due.answers(run + commit, "read(6, 10)", 7);
            due.answers(run + commit, "read(6, 9)", ParallelCommit.READ_NONE);
        }
    }

    private static void decidedIsFinal() {
        String[] calls = {"addWrite(0, 3, 1)", "stage(0)", "finalize(0)", "rollback(0)", "probe(0, 0)", "probe(0, 1)",
            "recover(0)"};
        String[] aborted = {Mix.run("A-") + "; rollback(0)", Mix.run("A-") + "; recover(0)",
            Mix.run("A-") + "; stage(0); recover(0)", Mix.run("AP") + "; stage(0); finalize(0)",
            Mix.run("AP") + "; stage(0); recover(0)"};
        String[] committed = {Mix.run("AA") + "; stage(0); finalize(0)", Mix.run("AA") + "; stage(0); recover(0)"};
        for (String call : calls) {
            for (String run : aborted) {
                due.refused(run, call, ParallelCommit.ERR_STATE);
                due.refused(run + "; crash(0)", call, ParallelCommit.ERR_STATE);
            }
            for (String run : committed) {
                due.refused(run, call, ParallelCommit.ERR_STATE);
                due.refused(run + "; crash(0)", call, ParallelCommit.ERR_STATE);
            }
        }
    }
}
