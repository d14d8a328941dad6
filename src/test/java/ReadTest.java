/** Promise 11: read. The words on later reads are tested over generated runs in SequencesTest, too. */
public final class ReadTest {
    private static final Due due = new Due();

    public static void main(String[] args) {
        refusesWrongArguments();
        raisesTheCacheOnlyUpwards();
        isBlockedFromTheIntentOn();
        readsTheLastVersion();
        readsEightVersions();
        answersTheSameAgain();
        refusesOutsideBothRanges();
        isBlockedAtOrBelowTheIntent();
        changesOnlyItsOwnKey();
        readsUpToAndWithTheVersion();
        answersTheSameWhateverAWriterDoes();
        due.end();
    }

    private static void refusesWrongArguments() {
        ParallelCommit x = new ParallelCommit(8);
        for (int wild : Due.WILD) {
            due.call(x, "read(" + wild + ", 5)", () -> x.read(wild, 5), ParallelCommit.ERR_ARG);
        }
        for (int ts : new int[] {Integer.MIN_VALUE, -1, 0, 1000001, Integer.MAX_VALUE}) {
            due.call(x, "read(0, " + ts + ")", () -> x.read(0, ts), ParallelCommit.ERR_ARG);
        }
        Due.writer(x, 1, 0);
        x.deliver(0, 0);
        due.call(x, "read(0, 1000001) on an intent", () -> x.read(0, 1000001), ParallelCommit.ERR_ARG);
    }

    private static void raisesTheCacheOnlyUpwards() {
        ParallelCommit x = new ParallelCommit(8);
        due.call(x, "read(0, 1)", () -> x.read(0, 1), ParallelCommit.READ_NONE, "tsCache(0)=1");
        due.call(x, "read(15, 1000000)", () -> x.read(15, 1000000), ParallelCommit.READ_NONE, "tsCache(15)=1000000");
        due.call(x, "read(0, 7)", () -> x.read(0, 7), ParallelCommit.READ_NONE, "tsCache(0)=7");
        due.call(x, "read(0, 7) again", () -> x.read(0, 7), ParallelCommit.READ_NONE);
        due.call(x, "read(0, 3)", () -> x.read(0, 3), ParallelCommit.READ_NONE);
    }

    private static void isBlockedFromTheIntentOn() {
        ParallelCommit x = new ParallelCommit(8);
        Due.writer(x, 10, 4, 5);
        due.call(x, "read(4, 2), the write under way", () -> x.read(4, 2), ParallelCommit.READ_NONE, "tsCache(4)=2");
        x.deliver(0, 0);
        due.call(x, "read(4, 9)", () -> x.read(4, 9), ParallelCommit.READ_NONE, "tsCache(4)=9");
        due.call(x, "read(4, 10)", () -> x.read(4, 10), ParallelCommit.READ_BLOCKED);
        due.call(x, "read(4, 1000000)", () -> x.read(4, 1000000), ParallelCommit.READ_BLOCKED);
        x.crash(0);
        due.call(x, "read(4, 10), dead", () -> x.read(4, 10), ParallelCommit.READ_BLOCKED);
        due.call(x, "read(5, 10), not delivered", () -> x.read(5, 10), ParallelCommit.READ_NONE,
            "tsCache(5)=10", "slotState(0, 1)=2");
        due.is("deliver(0, 1)", x.deliver(0, 1), ParallelCommit.SLOT_PUSHED);
        due.is("read(5, 10), pushed to 11", x.read(5, 10), ParallelCommit.READ_NONE);
        due.is("read(5, 11), pushed to 11", x.read(5, 11), ParallelCommit.READ_BLOCKED);
        x.recover(0);
        due.is("read(5, 11) after the abort", x.read(5, 11), ParallelCommit.READ_NONE);
        due.is("read(4, 10) after the abort", x.read(4, 10), ParallelCommit.READ_NONE);
    }

    private static void readsTheLastVersion() {
        ParallelCommit x = new ParallelCommit(8);
        int[] values = {0, 32767, 7};
        for (int i = 0; i < 3; i++) {
            int txn = x.begin(10 * (i + 1));
            x.addWrite(txn, 2, values[i]);
            x.addWrite(txn, 3 + i, 1);
            x.stage(txn);
            Due.deliverAll(x, txn);
            x.finalize(txn);
        }
        for (int ts = 1; ts <= 45; ts++) {
            int want = ts < 10 ? ParallelCommit.READ_NONE : values[ts < 20 ? 0 : ts < 30 ? 1 : 2];
            due.is("read(2, " + ts + ")", x.read(2, ts), want);
        }
        due.is("read(3, 9)", x.read(3, 9), ParallelCommit.READ_NONE);
        due.is("read(4, 19)", x.read(4, 19), ParallelCommit.READ_NONE);
        due.is("read(4, 20)", x.read(4, 20), 1);
    }

    private static void readsEightVersions() {
        for (int key = 0; key < 16; key++) {
            ParallelCommit x = new ParallelCommit(8);
            for (int txn = 0; txn < 8; txn++) {
                x.begin(100 + txn);
                x.addWrite(txn, key, 1000 + txn);
                x.addWrite(txn, 15 - key, 2000 + txn);
                x.stage(txn);
                Due.deliverAll(x, txn);
                due.is("finalize(" + txn + ")", x.finalize(txn), ParallelCommit.ST_COMMITTED);
            }
            for (int txn = 7; txn >= 0; txn--) {
                due.is("read(" + key + ", " + (100 + txn) + ")", x.read(key, 100 + txn), 1000 + txn);
                due.is("read(" + (15 - key) + ", " + (100 + txn) + ")", x.read(15 - key, 100 + txn), 2000 + txn);
            }
            due.is("read(" + key + ", 99)", x.read(key, 99), ParallelCommit.READ_NONE);
        }
    }

    private static void answersTheSameAgain() {
        ParallelCommit x = new ParallelCommit(8);
        Due.committed(x, 10, 1);
        due.is("read(1, 20)", x.read(1, 20), 101);
        Due.writer(x, 15, 1);
        x.stage(1);
        due.is("deliver(1, 0) below the read", x.deliver(1, 0), ParallelCommit.SLOT_PUSHED);
        due.is("read(1, 20) with an intent above", x.read(1, 20), 101);
        due.is("finalize(1)", x.finalize(1), ParallelCommit.ST_ABORTED);
        due.is("read(1, 20) after the abort", x.read(1, 20), 101);
        int txn = x.begin(21);
        x.addWrite(txn, 1, 5);
        x.stage(txn);
        x.deliver(txn, 0);
        due.is("recover above the read", x.recover(txn), ParallelCommit.ST_COMMITTED);
        due.is("read(1, 20) after a commit above", x.read(1, 20), 101);
        due.is("read(1, 21)", x.read(1, 21), 5);
    }

    private static void refusesOutsideBothRanges() {
        String[] runs = {"", Mix.run("AP-"), Mix.run("AAA") + "; stage(0); finalize(0)"};
        for (String run : runs) {
            for (int key : Due.WILD) {
                for (int ts : new int[] {0, 1, 10, 1000000, 1000001}) {
                    due.refused(run, "read(" + key + ", " + ts + ")", ParallelCommit.ERR_ARG);
                }
            }
            for (int key = 0; key < 16; key++) {
                for (int ts : new int[] {Integer.MIN_VALUE, -1000000, -1, 0, 1000001, 1000002, Integer.MAX_VALUE}) {
                    due.refused(run, "read(" + key + ", " + ts + ")", ParallelCommit.ERR_ARG);
                }
            }
        }
        for (int key = 0; key < 16; key++) {
            due.answers("", "read(" + key + ", 1)", ParallelCommit.READ_NONE);
            due.answers("", "read(" + key + ", 1000000)", ParallelCommit.READ_NONE);
        }
    }

    /** An intent at ts, one that was pushed, and both at the edges; by a transaction that is pending, staged or dead. */
    private static void isBlockedAtOrBelowTheIntent() {
        for (String then : new String[] {"", "; stage(0)", "; crash(0)", "; stage(0); crash(0)"}) {
            blockedFrom("begin(10); addWrite(0, 3, 1); deliver(0, 0)" + then, 10);
            blockedFrom("begin(10); addWrite(0, 3, 1); read(3, 14); deliver(0, 0)" + then, 15);
            blockedFrom("begin(1); addWrite(0, 3, 1); deliver(0, 0)" + then, 1);
            blockedFrom("begin(1000000); addWrite(0, 3, 1); deliver(0, 0)" + then, 1000000);
            blockedFrom("begin(10); addWrite(0, 3, 1); read(3, 1000000); deliver(0, 0)" + then, 1000001);
            blockedFrom("begin(10); addWrite(0, 3, 1)" + then, 1000001);
        }
    }

    private static void blockedFrom(String run, int intent) {
        for (int ts : new int[] {1, 2, intent - 1, intent, intent + 1, 999999, 1000000}) {
            if (ts < 1 || ts > 1000000) {
                continue;
            }
            String call = "read(3, " + ts + ")";
            if (ts >= intent) {
                due.refused(run, call, ParallelCommit.READ_BLOCKED);
            } else {
                due.answers(run, call, ParallelCommit.READ_NONE);
                due.answers(run + "; " + call, "tsCache(3)", Math.max(ts, Call.made(8, Call.parse(run)).tsCache(3)));
            }
        }
    }

    private static void changesOnlyItsOwnKey() {
        for (int key = 0; key < 16; key++) {
            ParallelCommit x = new ParallelCommit(8);
            int k = key;
            for (int ts : new int[] {1, 500, 1000000}) {
                due.call(x, "read(" + k + ", " + ts + ")", () -> x.read(k, ts), ParallelCommit.READ_NONE,
                    "tsCache(" + k + ")=" + ts);
                due.call(x, "read(" + k + ", " + ts + ") again", () -> x.read(k, ts), ParallelCommit.READ_NONE);
                due.call(x, "read(" + k + ", 1) after it", () -> x.read(k, 1), ParallelCommit.READ_NONE);
            }
        }
    }

    private static void readsUpToAndWithTheVersion() {
        for (int ts : new int[] {1, 2, 999999, 1000000}) {
            String run = "begin(" + ts + "); addWrite(0, 3, 0); deliver(0, 0); stage(0); finalize(0)";
            due.answers(run, "read(3, " + ts + ")", 0);
            due.answers(run, "read(3, 1000000)", 0);
            if (ts > 1) {
                due.answers(run, "read(3, " + (ts - 1) + ")", ParallelCommit.READ_NONE);
                due.answers(run, "read(3, 1)", ParallelCommit.READ_NONE);
            }
        }
    }

    /** A read at 10 falls between any two steps of a writer below, at or above it, which ends in each of the ways. */
    private static void answersTheSameWhateverAWriterDoes() {
        String[] ways = {"deliver(1, 0); stage(1); finalize(1)", "deliver(1, 0); stage(1); recover(1)",
            "stage(1); deliver(1, 0); crash(1); recover(1)", "stage(1); probe(1, 0); deliver(1, 0); finalize(1)",
            "deliver(1, 0); rollback(1); deliver(1, 0)", "stage(1); recover(1); deliver(1, 0)"};
        String version = "begin(5); addWrite(0, 3, 7); deliver(0, 0); stage(0); finalize(0)";
        for (String before : new String[] {"begin(5)", version}) {
            for (int ts : new int[] {1, 5, 6, 9, 10, 11, 1000000}) {
                for (String way : ways) {
                    readBetweenSteps(before, "begin(" + ts + "); addWrite(1, 3, 8); " + way);
                }
            }
        }
    }

    private static void readBetweenSteps(String before, String writer) {
        int steps = Call.parse(writer).size();
        for (int at = 0; at <= steps; at++) {
            ParallelCommit x = Call.made(8, Call.parse(before));
            int first = ParallelCommit.READ_BLOCKED;
            for (int step = 0; step <= steps; step++) {
                if (step >= at) {
                    int answer = x.read(3, 10);
                    if (first == ParallelCommit.READ_BLOCKED) {
                        first = answer;
                    }
                    due.is("read(3, 10) again at step " + step + " of " + before + "; " + writer, answer, first);
                }
                if (step < steps) {
                    Call.parse(writer).get(step).on(x);
                }
            }
        }
    }
}
