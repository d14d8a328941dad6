import java.util.ArrayList;
import java.util.List;

/**
 * The document's words, written down a second time with lists and objects,
 * so that the class can be held against them. The answers are written as numbers on purpose.
 */
final class Model {
    private static final class Version {
        int ts;
        int value;
    }

    private static final class Slot {
        int key;
        int value;
        int placed;
    }

    private static final class Txn {
        int ts;
        int status = 1;
        boolean alive = true;
        boolean staged;
        final List<Slot> slots = new ArrayList<>();

        boolean decided() {
            return status >= 3;
        }

        boolean allDelivered() {
            return slots.stream().allMatch(s -> s.placed > 0);
        }

        boolean allAtTs() {
            return slots.stream().allMatch(s -> s.placed == ts);
        }
    }

    private final int capacity;
    private final List<Txn> txns = new ArrayList<>();
    private final int[] cache = new int[16];
    private final List<List<Version>> versions = new ArrayList<>();

    Model(int maxTxns) {
        capacity = Math.max(1, Math.min(8, maxTxns));
        for (int key = 0; key < 16; key++) {
            versions.add(new ArrayList<>());
        }
    }

    private boolean bad(int txn) {
        return txn < 0 || txn >= txns.size();
    }

    private boolean bad(Txn t, int slot) {
        return slot < 0 || slot >= t.slots.size();
    }

    private int floor(int key) {
        return Math.max(cache[key], versions.get(key).stream().mapToInt(v -> v.ts).max().orElse(0));
    }

    private List<Integer> intents(int key, Txn but) {
        List<Integer> found = new ArrayList<>();
        for (Txn t : txns) {
            if (t.decided() || t == but) {
                continue;
            }
            for (Slot s : t.slots) {
                if (s.key == key && s.placed > 0) {
                    found.add(s.placed);
                }
            }
        }
        return found;
    }

    int intentCount(int key) {
        return intents(key, null).size();
    }

    private int decide(Txn t, boolean commit) {
        t.status = commit ? 3 : 4;
        if (commit) {
            for (Slot s : t.slots) {
                Version v = new Version();
                v.ts = t.ts;
                v.value = s.value;
                versions.get(s.key).add(v);
            }
        }
        return t.status;
    }

    int begin(int ts) {
        if (ts < 1 || ts > 1000000) return -4;
        if (txns.size() == capacity) return -5;
        Txn t = new Txn();
        t.ts = ts;
        txns.add(t);
        return txns.size() - 1;
    }

    int addWrite(int txn, int key, int value) {
        if (bad(txn)) return -1;
        Txn t = txns.get(txn);
        if (t.status != 1) return -2;
        if (!t.alive) return -3;
        if (key < 0 || key > 15 || value < 0 || value > 32767) return -4;
        if (t.slots.stream().anyMatch(s -> s.key == key)) return -6;
        if (t.slots.size() == 4) return -5;
        Slot s = new Slot();
        s.key = key;
        s.value = value;
        t.slots.add(s);
        return t.slots.size() - 1;
    }

    int stage(int txn) {
        if (bad(txn)) return -1;
        Txn t = txns.get(txn);
        if (t.status != 1) return -2;
        if (!t.alive) return -3;
        if (t.slots.isEmpty()) return -8;
        t.status = 2;
        t.staged = true;
        return 0;
    }

    int deliver(int txn, int slot) {
        if (bad(txn)) return -1;
        Txn t = txns.get(txn);
        if (bad(t, slot)) return -4;
        Slot s = t.slots.get(slot);
        if (s.placed > 0) return -6;
        if (t.decided()) return -2;
        if (!intents(s.key, t).isEmpty()) return -7;
        int f = floor(s.key);
        s.placed = t.ts > f ? t.ts : f + 1;
        return s.placed == t.ts ? 3 : 4;
    }

    int finalize(int txn) {
        if (bad(txn)) return -1;
        Txn t = txns.get(txn);
        if (t.status != 2) return -2;
        if (!t.alive) return -3;
        if (!t.allDelivered()) return -8;
        return decide(t, t.allAtTs());
    }

    int rollback(int txn) {
        if (bad(txn)) return -1;
        Txn t = txns.get(txn);
        if (t.status != 1) return -2;
        if (!t.alive) return -3;
        return decide(t, false);
    }

    int crash(int txn) {
        if (bad(txn)) return -1;
        Txn t = txns.get(txn);
        if (!t.alive) return -3;
        t.alive = false;
        return 0;
    }

    int probe(int txn, int slot) {
        if (bad(txn)) return -1;
        Txn t = txns.get(txn);
        if (t.status != 2) return -2;
        if (bad(t, slot)) return -4;
        Slot s = t.slots.get(slot);
        if (s.placed > 0) return s.placed == t.ts ? 3 : 4;
        cache[s.key] = Math.max(cache[s.key], t.ts);
        return 2;
    }

    int recover(int txn) {
        if (bad(txn)) return -1;
        Txn t = txns.get(txn);
        if (t.decided()) return -2;
        if (t.status == 1) return decide(t, false);
        for (Slot s : t.slots) {
            if (s.placed == 0) {
                cache[s.key] = Math.max(cache[s.key], t.ts);
            }
        }
        return decide(t, t.allAtTs());
    }

    int read(int key, int ts) {
        if (key < 0 || key > 15 || ts < 1 || ts > 1000000) return -4;
        if (intents(key, null).stream().anyMatch(at -> at <= ts)) return -10;
        cache[key] = Math.max(cache[key], ts);
        List<Version> all = versions.get(key);
        for (int i = all.size() - 1; i >= 0; i--) {
            if (all.get(i).ts <= ts) {
                return all.get(i).value;
            }
        }
        return -9;
    }

    int status(int txn) {
        return bad(txn) ? 0 : txns.get(txn).status;
    }

    boolean isAlive(int txn) {
        return !bad(txn) && txns.get(txn).alive;
    }

    int slotState(int txn, int slot) {
        if (bad(txn)) return -1;
        Txn t = txns.get(txn);
        if (bad(t, slot)) return -4;
        Slot s = t.slots.get(slot);
        if (s.placed > 0) return s.placed == t.ts ? 3 : 4;
        return floor(s.key) >= t.ts ? 2 : 1;
    }

    int slotTs(int txn, int slot) {
        if (bad(txn)) return -1;
        Txn t = txns.get(txn);
        return bad(t, slot) ? -4 : t.slots.get(slot).placed;
    }

    boolean isImplicitlyCommitted(int txn) {
        return !bad(txn) && txns.get(txn).staged && txns.get(txn).allAtTs();
    }

    int tsCache(int key) {
        return key < 0 || key > 15 ? -4 : cache[key];
    }
}
