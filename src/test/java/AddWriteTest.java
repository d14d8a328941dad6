/** Promise 3: addWrite. */
public final class AddWriteTest {
    private static final Due due = new Due();

    public static void main(String[] args) {
        addsSlotsInOrder();
        refusesWrongArguments();
        refusesInOrder();
        keepsEarlierSlots();
        takesEveryKeyAndValueInside();
        refusesKeysAndValuesOutside();
        examinesItsConditionsInOrder();
        refusesTheKeyOfEverySlot();
        due.end();
    }

    private static void addsSlotsInOrder() {
        ParallelCommit x = new ParallelCommit(8);
        x.begin(10);
        x.begin(20);
        due.call(x, "addWrite(0, 0, 0)", () -> x.addWrite(0, 0, 0), 0, "slotState(0, 0)=1", "slotTs(0, 0)=0");
        due.call(x, "addWrite(0, 15, 32767)", () -> x.addWrite(0, 15, 32767), 1, "slotState(0, 1)=1", "slotTs(0, 1)=0");
        due.call(x, "addWrite(0, 7, 5)", () -> x.addWrite(0, 7, 5), 2, "slotState(0, 2)=1", "slotTs(0, 2)=0");
        due.call(x, "addWrite(0, 7, 6), the key again", () -> x.addWrite(0, 7, 6), ParallelCommit.ERR_DUP);
        due.call(x, "addWrite(0, 0, 6), the first key again", () -> x.addWrite(0, 0, 6), ParallelCommit.ERR_DUP);
        due.call(x, "addWrite(0, 8, 5)", () -> x.addWrite(0, 8, 5), 3, "slotState(0, 3)=1", "slotTs(0, 3)=0");
        due.call(x, "addWrite(0, 9, 5), a fifth", () -> x.addWrite(0, 9, 5), ParallelCommit.ERR_FULL);
        due.call(x, "addWrite(0, 8, 5), a fifth on a key it has", () -> x.addWrite(0, 8, 5), ParallelCommit.ERR_DUP);
        due.call(x, "addWrite(0, 16, 5), a fifth with a wrong key", () -> x.addWrite(0, 16, 5), ParallelCommit.ERR_ARG);
        due.call(x, "addWrite(1, 7, 9), another's key", () -> x.addWrite(1, 7, 9), 0, "slotState(1, 0)=1", "slotTs(1, 0)=0");
        x.stage(0);
        Due.deliverAll(x, 0);
        x.finalize(0);
        due.is("read(0, 10)", x.read(0, 10), 0);
        due.is("read(15, 10)", x.read(15, 10), 32767);
        due.is("read(7, 10)", x.read(7, 10), 5);
        due.is("read(8, 10)", x.read(8, 10), 5);
        due.is("read(9, 10)", x.read(9, 10), ParallelCommit.READ_NONE);
    }

    private static void refusesWrongArguments() {
        ParallelCommit x = new ParallelCommit(8);
        x.begin(10);
        for (int wild : Due.WILD) {
            due.call(x, "addWrite(" + wild + ", 0, 0)", () -> x.addWrite(wild, 0, 0), ParallelCommit.ERR_NO_TXN);
            due.call(x, "addWrite(0, " + wild + ", 0)", () -> x.addWrite(0, wild, 0), ParallelCommit.ERR_ARG);
        }
        for (int value : new int[] {Integer.MIN_VALUE, -1, 32768, Integer.MAX_VALUE}) {
            due.call(x, "addWrite(0, 0, " + value + ")", () -> x.addWrite(0, 0, value), ParallelCommit.ERR_ARG);
        }
        x.addWrite(0, 3, 1);
        due.call(x, "addWrite(0, 3, -1), wrong and double", () -> x.addWrite(0, 3, -1), ParallelCommit.ERR_ARG);
        due.call(x, "addWrite(1, 0, 0), the next id", () -> x.addWrite(1, 0, 0), ParallelCommit.ERR_NO_TXN);
    }

    private static void refusesInOrder() {
        ParallelCommit x = new ParallelCommit(8);
        Due.writer(x, 10, 0);
        x.crash(0);
        due.call(x, "addWrite(0, 1, 1) of a dead one", () -> x.addWrite(0, 1, 1), ParallelCommit.ERR_DEAD);
        due.call(x, "addWrite(0, 16, 1) of a dead one", () -> x.addWrite(0, 16, 1), ParallelCommit.ERR_DEAD);
        Due.writer(x, 10, 1);
        x.stage(1);
        due.call(x, "addWrite(1, 2, 1) of a staged one", () -> x.addWrite(1, 2, 1), ParallelCommit.ERR_STATE);
        x.crash(1);
        due.call(x, "addWrite(1, 16, 1) of a staged dead one", () -> x.addWrite(1, 16, 1), ParallelCommit.ERR_STATE);
        Due.committed(x, 10, 3);
        due.call(x, "addWrite(2, 4, 1) of a committed one", () -> x.addWrite(2, 4, 1), ParallelCommit.ERR_STATE);
        x.begin(10);
        x.rollback(3);
        due.call(x, "addWrite(3, 4, 1) of an aborted one", () -> x.addWrite(3, 4, 1), ParallelCommit.ERR_STATE);
    }

    private static void keepsEarlierSlots() {
        ParallelCommit x = new ParallelCommit(8);
        x.read(5, 30);
        Due.writer(x, 10, 4, 5);
        Due.deliverAll(x, 0);
        due.call(x, "addWrite(0, 6, 1) after deliveries", () -> x.addWrite(0, 6, 1), 2, "slotState(0, 2)=1", "slotTs(0, 2)=0");
        due.is("slotTs(0, 0)", x.slotTs(0, 0), 10);
        due.is("slotTs(0, 1)", x.slotTs(0, 1), 31);
        x.read(7, 10);
        due.call(x, "addWrite(0, 7, 1) on a key read at its timestamp", () -> x.addWrite(0, 7, 1), 3,
            "slotState(0, 3)=2", "slotTs(0, 3)=0");
    }

    private static void takesEveryKeyAndValueInside() {
        for (int key = 0; key < 16; key++) {
            for (int value : new int[] {0, 1, 255, 256, 32766, 32767}) {
                String run = "begin(10); addWrite(0, " + key + ", " + value + "); deliver(0, 0); stage(0); finalize(0)";
                due.answers("begin(10)", "addWrite(0, " + key + ", " + value + ")", 0);
                due.answers(run, "read(" + key + ", 10)", value);
            }
        }
    }

    private static void refusesKeysAndValuesOutside() {
        String[] runs = {"begin(10)", "begin(10); addWrite(0, 0, 1); addWrite(0, 15, 2); deliver(0, 0)"};
        for (String run : runs) {
            for (int key : Due.WILD) {
                for (int value : new int[] {-1, 0, 32767, 32768}) {
                    due.refused(run, "addWrite(0, " + key + ", " + value + ")", ParallelCommit.ERR_ARG);
                }
            }
            for (int value : new int[] {Integer.MIN_VALUE, -32768, -1, 32768, 65536, Integer.MAX_VALUE}) {
                for (int key = 0; key < 16; key++) {
                    due.refused(run, "addWrite(0, " + key + ", " + value + ")", ParallelCommit.ERR_ARG);
                }
            }
        }
    }

    /** The first of the six conditions that holds gives the answer, for each two that can hold at once. */
    private static void examinesItsConditionsInOrder() {
        String one = "begin(10); addWrite(0, 3, 1)";
        String full = "begin(10); addWrite(0, 0, 1); addWrite(0, 1, 1); addWrite(0, 2, 1); addWrite(0, 3, 1)";
        due.refused(full, "addWrite(1, 16, -1)", ParallelCommit.ERR_NO_TXN);
        due.refused(full, "addWrite(-1, 3, 32768)", ParallelCommit.ERR_NO_TXN);
        for (String decided : new String[] {"; stage(0)", "; rollback(0)", "; recover(0)", "; stage(0); recover(0)"}) {
            for (String dead : new String[] {"", "; crash(0)"}) {
                due.refused(one + decided + dead, "addWrite(0, 4, 1)", ParallelCommit.ERR_STATE);
                due.refused(one + decided + dead, "addWrite(0, 16, 1)", ParallelCommit.ERR_STATE);
                due.refused(one + decided + dead, "addWrite(0, 4, -1)", ParallelCommit.ERR_STATE);
                due.refused(one + decided + dead, "addWrite(0, 3, 1)", ParallelCommit.ERR_STATE);
                due.refused(full + decided + dead, "addWrite(0, 4, 1)", ParallelCommit.ERR_STATE);
            }
        }
        due.refused(one + "; crash(0)", "addWrite(0, 4, 1)", ParallelCommit.ERR_DEAD);
        due.refused(one + "; crash(0)", "addWrite(0, 16, 1)", ParallelCommit.ERR_DEAD);
        due.refused(one + "; crash(0)", "addWrite(0, 4, -1)", ParallelCommit.ERR_DEAD);
        due.refused(one + "; crash(0)", "addWrite(0, 3, 1)", ParallelCommit.ERR_DEAD);
        due.refused(full + "; crash(0)", "addWrite(0, 4, 1)", ParallelCommit.ERR_DEAD);
        due.refused(one, "addWrite(0, 3, 32768)", ParallelCommit.ERR_ARG);
        due.refused(full, "addWrite(0, 4, 32768)", ParallelCommit.ERR_ARG);
        due.refused(full, "addWrite(0, -1, 1)", ParallelCommit.ERR_ARG);
        due.refused(full, "addWrite(0, 0, 1)", ParallelCommit.ERR_DUP);
        due.refused(full, "addWrite(0, 4, 1)", ParallelCommit.ERR_FULL);
    }

    private static void refusesTheKeyOfEverySlot() {
        StringBuilder run = new StringBuilder("begin(10)");
        for (int slot = 0; slot < 4; slot++) {
            due.answers(run.toString(), "addWrite(0, " + 5 * slot + ", 32767)", slot);
            run.append("; addWrite(0, " + 5 * slot + ", " + slot + ")");
            for (int earlier = 0; earlier <= slot; earlier++) {
                due.refused(run.toString(), "addWrite(0, " + 5 * earlier + ", 32767)", ParallelCommit.ERR_DUP);
                due.refused(run + "; deliver(0, " + earlier + ")", "addWrite(0, " + 5 * earlier + ", 7)", ParallelCommit.ERR_DUP);
            }
        }
        for (int key : new int[] {1, 4, 6, 14}) {
            due.refused(run.toString(), "addWrite(0, " + key + ", 1)", ParallelCommit.ERR_FULL);
            due.refused(run + "; deliver(0, 3)", "addWrite(0, " + key + ", 1)", ParallelCommit.ERR_FULL);
        }
        due.answers(run + "; begin(10)", "addWrite(1, 0, 1)", 0);
    }
}
