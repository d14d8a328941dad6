/** "Arguments and refusals": which txn and slot arguments are valid, for every number of transactions and slots. */
public final class ArgumentsTest {
    private static final Due due = new Due();

    private static final String[] TXN_CALLS = {"addWrite(T, 15, 1)", "addWrite(T, 16, -1)", "stage(T)",
        "deliver(T, 0)", "deliver(T, 4)", "finalize(T)", "rollback(T)", "crash(T)", "probe(T, 0)", "probe(T, 4)",
        "recover(T)", "slotState(T, 0)", "slotState(T, 4)", "slotTs(T, 0)", "slotTs(T, 4)"};

    public static void main(String[] args) {
        for (int begun = 0; begun <= 8; begun++) {
            validTxns(begun);
            invalidTxns(begun);
        }
        refusedBeginsMakeNoTxnValid();
        for (int slots = 0; slots <= 4; slots++) {
            slotsOf(slots, "", ParallelCommit.ERR_STATE);
            slotsOf(slots, "; crash(1)", ParallelCommit.ERR_STATE);
            slotsOf(slots, "; rollback(1)", ParallelCommit.ERR_STATE);
            slotsOf(slots, "; recover(1)", ParallelCommit.ERR_STATE);
            if (slots > 0) {
                slotsOf(slots, "; stage(1)", ParallelCommit.ERR_ARG);
                slotsOf(slots, "; stage(1); crash(1)", ParallelCommit.ERR_ARG);
                slotsOf(slots, "; stage(1); recover(1)", ParallelCommit.ERR_STATE);
                slotsOf(slots, deliveredAndStaged() + "; finalize(1)", ParallelCommit.ERR_STATE);
            }
        }
        addingASlotMakesItValid();
        due.end();
    }

    private static String writers(int begun) {
        StringBuilder run = new StringBuilder();
        for (int txn = 0; txn < begun; txn++) {
            run.append("begin(" + (10 + txn) + "); addWrite(" + txn + ", " + txn + ", " + (100 + txn) + "); ");
        }
        return run.toString();
    }

    private static void validTxns(int begun) {
        String run = writers(begun);
        for (int txn = 0; txn < begun; txn++) {
            due.answers(run, "status(" + txn + ")", ParallelCommit.ST_PENDING);
            due.answers(run, "isAlive(" + txn + ")", 1);
            due.answers(run, "addWrite(" + txn + ", 15, 1)", 1);
            due.answers(run, "stage(" + txn + ")", ParallelCommit.OK);
            due.answers(run, "deliver(" + txn + ", 0)", ParallelCommit.SLOT_AT_TS);
            due.answers(run, "rollback(" + txn + ")", ParallelCommit.ST_ABORTED);
            due.answers(run, "crash(" + txn + ")", ParallelCommit.OK);
            due.answers(run, "recover(" + txn + ")", ParallelCommit.ST_ABORTED);
            due.answers(run, "slotState(" + txn + ", 0)", ParallelCommit.SLOT_INFLIGHT);
            due.answers(run, "slotTs(" + txn + ", 0)", 0);
            due.answers(run + "stage(" + txn + ")", "probe(" + txn + ", 0)", ParallelCommit.SLOT_PREVENTED);
            String staged = run + "stage(" + txn + "); deliver(" + txn + ", 0)";
            due.answers(staged, "finalize(" + txn + ")", ParallelCommit.ST_COMMITTED);
            due.answers(staged, "isImplicitlyCommitted(" + txn + ")", 1);
        }
    }

    private static void invalidTxns(int begun) {
        for (int txn = begun; txn <= 15; txn++) {
            invalidTxn(writers(begun), txn);
        }
        for (int txn : Due.WILD) {
            invalidTxn(writers(begun), txn);
        }
    }

    private static void invalidTxn(String run, int txn) {
        for (String call : TXN_CALLS) {
            due.refused(run, call.replace("(T", "(" + txn), ParallelCommit.ERR_NO_TXN);
        }
        due.answers(run, "status(" + txn + ")", ParallelCommit.ST_FREE);
        due.answers(run, "isAlive(" + txn + ")", 0);
        due.answers(run, "isImplicitlyCommitted(" + txn + ")", 0);
    }

    private static void refusedBeginsMakeNoTxnValid() {
        String run = "begin(0); begin(10); addWrite(0, 0, 1); begin(1000001); begin(-2147483648)";
        due.answers(run, "stage(0)", ParallelCommit.OK);
        invalidTxn(run, 1);
        invalidTxn(run, 2);
    }

    /** Transaction 1 has so many slots, between two whose slots are all delivered. */
    private static String between(int slots) {
        StringBuilder run = new StringBuilder("begin(10); begin(20); begin(30)");
        for (int slot = 0; slot < 4; slot++) {
            run.append("; addWrite(0, " + slot + ", 1); deliver(0, " + slot + ")");
            run.append("; addWrite(2, " + (12 + slot) + ", 2); deliver(2, " + slot + ")");
        }
        for (int slot = 0; slot < slots; slot++) {
            run.append("; addWrite(1, " + (4 + slot) + ", 3)");
        }
        return run.toString();
    }

    private static String deliveredAndStaged() {
        return "; deliver(1, 0); deliver(1, 1); deliver(1, 2); deliver(1, 3); stage(1)";
    }

    private static void slotsOf(int slots, String then, int probed) {
        String run = between(slots) + then;
        for (int slot = slots; slot <= 15; slot++) {
            invalidSlot(run, slot, probed);
        }
        for (int slot : Due.WILD) {
            invalidSlot(run, slot, probed);
        }
        ParallelCommit x = Call.made(8, Call.parse(run));
        for (int slot = 0; slot < slots; slot++) {
            String at = "(1, " + slot + ") after " + run;
            due.is("slotState" + at + " is a slot's state", x.slotState(1, slot) > 0, true);
            due.is("slotTs" + at + " is a timestamp or 0", x.slotTs(1, slot) >= 0, true);
            due.is("deliver" + at + " is ERR_ARG", x.deliver(1, slot) == ParallelCommit.ERR_ARG, false);
            due.is("probe" + at + " is ERR_ARG", x.probe(1, slot) == ParallelCommit.ERR_ARG, false);
        }
    }

    private static void invalidSlot(String run, int slot, int probed) {
        due.refused(run, "deliver(1, " + slot + ")", ParallelCommit.ERR_ARG);
        due.refused(run, "probe(1, " + slot + ")", probed);
        due.refused(run, "slotState(1, " + slot + ")", ParallelCommit.ERR_ARG);
        due.refused(run, "slotTs(1, " + slot + ")", ParallelCommit.ERR_ARG);
    }

    private static void addingASlotMakesItValid() {
        ParallelCommit x = new ParallelCommit(8);
        x.begin(10);
        for (int slot = 0; slot < 4; slot++) {
            due.is("slotTs(0, " + slot + ") before addWrite", x.slotTs(0, slot), ParallelCommit.ERR_ARG);
            x.addWrite(0, -1, 1);
            due.is("slotTs(0, " + slot + ") after a refused addWrite", x.slotTs(0, slot), ParallelCommit.ERR_ARG);
            x.addWrite(0, slot, 1);
            due.is("slotTs(0, " + slot + ") after addWrite", x.slotTs(0, slot), 0);
        }
        x.addWrite(0, 4, 1);
        due.is("slotTs(0, 4) after a fifth addWrite", x.slotTs(0, 4), ParallelCommit.ERR_ARG);
    }
}
