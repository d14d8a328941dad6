public final class ParallelCommit {
    public static final int KEYS = 16;
    public static final int SHARDS = 4;
    public static final int MAX_SLOTS = 4;
    public static final int MAX_TXNS = 8;
    public static final int MAX_TS = 1000000;
    public static final int MAX_VALUE = 32767;

    public static final int OK = 0;
    public static final int ERR_NO_TXN = -1;
    public static final int ERR_STATE = -2;
    public static final int ERR_DEAD = -3;
    public static final int ERR_ARG = -4;
    public static final int ERR_FULL = -5;
    public static final int ERR_DUP = -6;
    public static final int ERR_BUSY = -7;
    public static final int ERR_NOT_READY = -8;
    public static final int READ_NONE = -9;
    public static final int READ_BLOCKED = -10;

    public static final int ST_FREE = 0;
    public static final int ST_PENDING = 1;
    public static final int ST_STAGING = 2;
    public static final int ST_COMMITTED = 3;
    public static final int ST_ABORTED = 4;

    public static final int SLOT_INFLIGHT = 1;
    public static final int SLOT_PREVENTED = 2;
    public static final int SLOT_AT_TS = 3;
    public static final int SLOT_PUSHED = 4;

    // A transaction writes a key at most once, so a key never has more versions than there are transactions.
    private static final int VERSIONS_PER_KEY = MAX_TXNS;
    private static final int VERSION_CELLS = KEYS * VERSIONS_PER_KEY;
    private static final int SLOT_CELLS = MAX_TXNS * MAX_SLOTS;

    // Timestamps start at 1, so 0 is free to say that there is no intent or no delivery.
    private static final int NO_TS = 0;

    private final int capacity;
    private int begun = 0;

    private final int[] cachedTs = new int[KEYS];
    private final int[] versionCount = new int[KEYS];
    private final int[] versionTs = new int[VERSION_CELLS];
    private final int[] versionValue = new int[VERSION_CELLS];

    private final int[] txnTs = new int[MAX_TXNS];
    private final int[] txnStatus = new int[MAX_TXNS];
    private final boolean[] txnAlive = new boolean[MAX_TXNS];
    private final boolean[] txnStaged = new boolean[MAX_TXNS];

    private final int[] slotCount = new int[MAX_TXNS];
    private final int[] slotKey = new int[SLOT_CELLS];
    private final int[] slotValue = new int[SLOT_CELLS];
    private final int[] slotPlaced = new int[SLOT_CELLS];

    public ParallelCommit(int maxTxns) {
        capacity = maxTxns < 1 ? 1 : (maxTxns > MAX_TXNS ? MAX_TXNS : maxTxns);
    }

    public int begin(int ts) {
        if (!isTimestamp(ts)) {
            return ERR_ARG;
        }
        if (begun >= capacity) {
            return ERR_FULL;
        }
        int txn = begun;
        txnTs[txn] = ts;
        txnStatus[txn] = ST_PENDING;
        txnAlive[txn] = true;
        begun = txn + 1;
        return txn;
    }

    public int addWrite(int txn, int key, int value) {
        int refusal = coordinatorRefusal(txn, ST_PENDING);
        if (refusal != OK) {
            return refusal;
        }
        if (!isKey(key) || value < 0 || value > MAX_VALUE) {
            return ERR_ARG;
        }
        if (writesKey(txn, key)) {
            return ERR_DUP;
        }
        int slot = slotCount[txn];
        if (slot >= MAX_SLOTS) {
            return ERR_FULL;
        }
        int cell = cellOf(txn, slot);
        slotKey[cell] = key;
        slotValue[cell] = value;
        slotCount[txn] = slot + 1;
        return slot;
    }

    public int stage(int txn) {
        int refusal = coordinatorRefusal(txn, ST_PENDING);
        if (refusal != OK) {
            return refusal;
        }
        if (slotCount[txn] == 0) {
            return ERR_NOT_READY;
        }
        txnStatus[txn] = ST_STAGING;
        txnStaged[txn] = true;
        return OK;
    }

    public int deliver(int txn, int slot) {
        if (!isTxn(txn)) {
            return ERR_NO_TXN;
        }
        if (!isSlot(txn, slot)) {
            return ERR_ARG;
        }
        if (isDelivered(txn, slot)) {
            return ERR_DUP;
        }
        if (isDecided(txn)) {
            return ERR_STATE;
        }
        int cell = cellOf(txn, slot);
        int key = slotKey[cell];
        // The transaction's only slot on this key is not delivered, so an intent here is another's.
        if (intentTs(key) != NO_TS) {
            return ERR_BUSY;
        }
        int floor = floorOf(key);
        slotPlaced[cell] = txnTs[txn] > floor ? txnTs[txn] : floor + 1;
        return deliveredState(txn, slot);
    }

    public int finalize(int txn) {
        int refusal = coordinatorRefusal(txn, ST_STAGING);
        if (refusal != OK) {
            return refusal;
        }
        if (!everySlotDelivered(txn)) {
            return ERR_NOT_READY;
        }
        return decideByPlacement(txn);
    }

    public int rollback(int txn) {
        int refusal = coordinatorRefusal(txn, ST_PENDING);
        if (refusal != OK) {
            return refusal;
        }
        return abort(txn);
    }

    public int crash(int txn) {
        if (!isTxn(txn)) {
            return ERR_NO_TXN;
        }
        if (!txnAlive[txn]) {
            return ERR_DEAD;
        }
        txnAlive[txn] = false;
        return OK;
    }

    public int probe(int txn, int slot) {
        if (!isTxn(txn)) {
            return ERR_NO_TXN;
        }
        if (txnStatus[txn] != ST_STAGING) {
            return ERR_STATE;
        }
        if (!isSlot(txn, slot)) {
            return ERR_ARG;
        }
        if (isDelivered(txn, slot)) {
            return deliveredState(txn, slot);
        }
        prevent(txn, slot);
        return SLOT_PREVENTED;
    }

    public int recover(int txn) {
        if (!isTxn(txn)) {
            return ERR_NO_TXN;
        }
        if (isDecided(txn)) {
            return ERR_STATE;
        }
        if (txnStatus[txn] == ST_PENDING) {
            return abort(txn);
        }
        preventUndelivered(txn);
        return decideByPlacement(txn);
    }

    public int read(int key, int ts) {
        if (!isKey(key) || !isTimestamp(ts)) {
            return ERR_ARG;
        }
        int intent = intentTs(key);
        if (intent != NO_TS && intent <= ts) {
            return READ_BLOCKED;
        }
        raiseCache(key, ts);
        return lastValueUpTo(key, ts);
    }

    public int status(int txn) {
        return isTxn(txn) ? txnStatus[txn] : ST_FREE;
    }

    public boolean isAlive(int txn) {
        return isTxn(txn) && txnAlive[txn];
    }

    public int slotState(int txn, int slot) {
        if (!isTxn(txn)) {
            return ERR_NO_TXN;
        }
        if (!isSlot(txn, slot)) {
            return ERR_ARG;
        }
        if (isDelivered(txn, slot)) {
            return deliveredState(txn, slot);
        }
        int cell = cellOf(txn, slot);
        return floorOf(slotKey[cell]) >= txnTs[txn] ? SLOT_PREVENTED : SLOT_INFLIGHT;
    }

    public int slotTs(int txn, int slot) {
        if (!isTxn(txn)) {
            return ERR_NO_TXN;
        }
        if (!isSlot(txn, slot)) {
            return ERR_ARG;
        }
        int cell = cellOf(txn, slot);
        return slotPlaced[cell];
    }

    public boolean isImplicitlyCommitted(int txn) {
        return isTxn(txn) && txnStaged[txn] && everySlotAtTs(txn);
    }

    public int tsCache(int key) {
        return isKey(key) ? cachedTs[key] : ERR_ARG;
    }

    private boolean isTimestamp(int ts) {
        return ts >= 1 && ts <= MAX_TS;
    }

    private boolean isKey(int key) {
        return key >= 0 && key < KEYS;
    }

    private boolean isTxn(int txn) {
        return txn >= 0 && txn < begun;
    }

    private boolean isSlot(int txn, int slot) {
        return slot >= 0 && slot < slotCount[txn];
    }

    private boolean isDecided(int txn) {
        return txnStatus[txn] == ST_COMMITTED || txnStatus[txn] == ST_ABORTED;
    }

    // Every call of the coordinator begins with these three conditions, in this order.
    private int coordinatorRefusal(int txn, int neededStatus) {
        if (!isTxn(txn)) {
            return ERR_NO_TXN;
        }
        if (txnStatus[txn] != neededStatus) {
            return ERR_STATE;
        }
        if (!txnAlive[txn]) {
            return ERR_DEAD;
        }
        return OK;
    }

    private int cellOf(int txn, int slot) {
        return txn * MAX_SLOTS + slot;
    }

    private boolean isDelivered(int txn, int slot) {
        int cell = cellOf(txn, slot);
        return slotPlaced[cell] != NO_TS;
    }

    private int deliveredState(int txn, int slot) {
        int cell = cellOf(txn, slot);
        return slotPlaced[cell] == txnTs[txn] ? SLOT_AT_TS : SLOT_PUSHED;
    }

    private boolean writesKey(int txn, int key) {
        for (int slot = 0; slot < slotCount[txn]; slot++) {
            int cell = cellOf(txn, slot);
            if (slotKey[cell] == key) {
                return true;
            }
        }
        return false;
    }

    private boolean everySlotDelivered(int txn) {
        for (int slot = 0; slot < slotCount[txn]; slot++) {
            if (!isDelivered(txn, slot)) {
                return false;
            }
        }
        return true;
    }

    // A slot that is not delivered holds NO_TS, which is no transaction's timestamp.
    private boolean everySlotAtTs(int txn) {
        for (int slot = 0; slot < slotCount[txn]; slot++) {
            int cell = cellOf(txn, slot);
            if (slotPlaced[cell] != txnTs[txn]) {
                return false;
            }
        }
        return true;
    }

    // A key carries one intent at most, so the first one found is the only one.
    private int intentTs(int key) {
        for (int txn = 0; txn < begun; txn++) {
            int placed = isDecided(txn) ? NO_TS : placedOn(txn, key);
            if (placed != NO_TS) {
                return placed;
            }
        }
        return NO_TS;
    }

    private int placedOn(int txn, int key) {
        for (int slot = 0; slot < slotCount[txn]; slot++) {
            int cell = cellOf(txn, slot);
            if (slotKey[cell] == key) {
                return slotPlaced[cell];
            }
        }
        return NO_TS;
    }

    private int floorOf(int key) {
        int floor = cachedTs[key];
        int first = key * VERSIONS_PER_KEY;
        for (int i = 0; i < versionCount[key]; i++) {
            if (versionTs[first + i] > floor) {
                floor = versionTs[first + i];
            }
        }
        return floor;
    }

    private int lastValueUpTo(int key, int ts) {
        int answer = READ_NONE;
        int first = key * VERSIONS_PER_KEY;
        for (int i = 0; i < versionCount[key]; i++) {
            if (versionTs[first + i] <= ts) {
                answer = versionValue[first + i];
            }
        }
        return answer;
    }

    private void raiseCache(int key, int ts) {
        if (cachedTs[key] < ts) {
            cachedTs[key] = ts;
        }
    }

    private void prevent(int txn, int slot) {
        int cell = cellOf(txn, slot);
        raiseCache(slotKey[cell], txnTs[txn]);
    }

    private void preventUndelivered(int txn) {
        for (int slot = 0; slot < slotCount[txn]; slot++) {
            if (!isDelivered(txn, slot)) {
                prevent(txn, slot);
            }
        }
    }

    private int decideByPlacement(int txn) {
        return everySlotAtTs(txn) ? commit(txn) : abort(txn);
    }

    private int commit(int txn) {
        txnStatus[txn] = ST_COMMITTED;
        for (int slot = 0; slot < slotCount[txn]; slot++) {
            int cell = cellOf(txn, slot);
            appendVersion(slotKey[cell], txnTs[txn], slotValue[cell]);
        }
        return ST_COMMITTED;
    }

    private int abort(int txn) {
        txnStatus[txn] = ST_ABORTED;
        return ST_ABORTED;
    }

    private void appendVersion(int key, int ts, int value) {
        int count = versionCount[key];
        if (count < VERSIONS_PER_KEY) {
            int cell = key * VERSIONS_PER_KEY + count;
            versionTs[cell] = ts;
            versionValue[cell] = value;
            versionCount[key] = count + 1;
        }
    }
}
