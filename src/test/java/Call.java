import java.util.ArrayList;
import java.util.List;
import java.util.regex.Matcher;
import java.util.regex.Pattern;

/** One call as a thing of its own, so that the same run of calls can be made on many objects. */
record Call(Op op, int a, int b, int c) {
    /** The public methods; the number is how many arguments each of them takes. */
    enum Op {
        begin(1), addWrite(3), stage(1), deliver(2), finalize(1), rollback(1), crash(1), probe(2), recover(1), read(2),
        status(1), isAlive(1), slotState(2), slotTs(2), isImplicitlyCommitted(1), tsCache(1);

        final int arity;

        Op(int arity) {
            this.arity = arity;
        }
    }

    private static final Pattern TOLD = Pattern.compile("(\\w+)\\(([^)]*)\\)");

    static Call of(Op op, int... args) {
        return new Call(op, args[0], args.length > 1 ? args[1] : 0, args.length > 2 ? args[2] : 0);
    }

    /** The calls of a run that is told as "begin(10); addWrite(0, 3, 1)". */
    static List<Call> parse(String run) {
        List<Call> calls = new ArrayList<>();
        Matcher found = TOLD.matcher(run);
        while (found.find()) {
            Op op = Op.valueOf(found.group(1));
            String[] told = found.group(2).split(",");
            int[] args = new int[told.length];
            for (int i = 0; i < told.length; i++) {
                args[i] = Integer.parseInt(told[i].trim());
            }
            if (args.length != op.arity) {
                throw new IllegalArgumentException(run);
            }
            calls.add(of(op, args));
        }
        return calls;
    }

    /** An object after the run, with room for maxTxns transactions. */
    static ParallelCommit made(int maxTxns, List<Call> run) {
        ParallelCommit x = new ParallelCommit(maxTxns);
        for (Call call : run) {
            call.on(x);
        }
        return x;
    }

    static Model model(int maxTxns, List<Call> run) {
        Model model = new Model(maxTxns);
        for (Call call : run) {
            call.on(model);
        }
        return model;
    }

    /** The answer; a boolean counts 1 or 0. */
    int on(ParallelCommit x) {
        return switch (op) {
            case begin -> x.begin(a);
            case addWrite -> x.addWrite(a, b, c);
            case stage -> x.stage(a);
            case deliver -> x.deliver(a, b);
            case finalize -> x.finalize(a);
            case rollback -> x.rollback(a);
            case crash -> x.crash(a);
            case probe -> x.probe(a, b);
            case recover -> x.recover(a);
            case read -> x.read(a, b);
            case status -> x.status(a);
            case isAlive -> x.isAlive(a) ? 1 : 0;
            case slotState -> x.slotState(a, b);
            case slotTs -> x.slotTs(a, b);
            case isImplicitlyCommitted -> x.isImplicitlyCommitted(a) ? 1 : 0;
            case tsCache -> x.tsCache(a);
        };
    }

    int on(Model model) {
        return switch (op) {
            case begin -> model.begin(a);
            case addWrite -> model.addWrite(a, b, c);
            case stage -> model.stage(a);
            case deliver -> model.deliver(a, b);
            case finalize -> model.finalize(a);
            case rollback -> model.rollback(a);
            case crash -> model.crash(a);
            case probe -> model.probe(a, b);
            case recover -> model.recover(a);
            case read -> model.read(a, b);
            case status -> model.status(a);
            case isAlive -> model.isAlive(a) ? 1 : 0;
            case slotState -> model.slotState(a, b);
            case slotTs -> model.slotTs(a, b);
            case isImplicitlyCommitted -> model.isImplicitlyCommitted(a) ? 1 : 0;
            case tsCache -> model.tsCache(a);
        };
    }

    @Override
    public String toString() {
        String rest = op.arity > 2 ? ", " + b + ", " + c : op.arity > 1 ? ", " + b : "";
        return op + "(" + a + rest + ")";
    }
}
