/**
 * A table of eight keys worked on by up to five transactions at a time, each of which sees the
 * table as it was committed when it began, and its own changes.
 */
public final class VersionHeap {
    public static final int BAD_TX = -1;
    public static final int BAD_KEY = -2;
    public static final int IDLE = -3;
    public static final int ACTIVE = -4;
    public static final int BUSY = -5;
    public static final int LATE = -6;
    public static final int ABSENT = -7;
    public static final int FULL = -8;
    public static final int UNSAFE = -9;

    private static final int ALLOWED = 0;

    private static final int TX_COUNT = 5;
    private static final int KEY_COUNT = 8;
    private static final int SAVE_LIMIT = 3;

    // A frame is one whole state of the table. Each transaction has five of them in a row: its
    // snapshot, its three savepoints, and its view. The snapshot stands right below the first
    // savepoint so that an undo without savepoints is the same step as one with them.
    private static final int FRAMES_PER_TX = 5;
    private static final int VIEW = 4;
    private static final int COMMITTED = 25;
    private static final int FRAME_COUNT = 26;
    private static final int CELL_COUNT = 208;

    // Sets of keys are masks: bit k stands for key k.
    private final int[] presentKeys = new int[FRAME_COUNT];
    private final int[] heldKeys = new int[FRAME_COUNT];
    private final int[] values = new int[CELL_COUNT];

    private final boolean[] active = new boolean[TX_COUNT];
    private final boolean[] strictly = new boolean[TX_COUNT];
    private final int[] saves = new int[TX_COUNT];
    private final int[] readKeys = new int[TX_COUNT];
    private final int[] lateKeys = new int[TX_COUNT];

    public VersionHeap() {
    }

    public int begin(int tx, boolean strict) {
        if (isBadTx(tx)) {
            return BAD_TX;
        }
        if (active[tx]) {
            return ACTIVE;
        }
        copyFrame(COMMITTED, tx * FRAMES_PER_TX);
        copyFrame(COMMITTED, tx * FRAMES_PER_TX + VIEW);
        active[tx] = true;
        strictly[tx] = strict;
        saves[tx] = 0;
        readKeys[tx] = 0;
        lateKeys[tx] = 0;
        return 0;
    }

    public int put(int tx, int key, int value) {
        int refusal = refusalOfKey(tx, key);
        if (refusal == ALLOWED) {
            refusal = refusalOfChange(tx, key);
        }
        if (refusal != ALLOWED) {
            return refusal;
        }
        int view = viewOf(tx);
        int had = hasKey(presentKeys[view], key) ? 1 : 0;
        heldKeys[view] |= 1 << key;
        setCell(view, key, true, value);
        return had;
    }

    public int remove(int tx, int key) {
        int refusal = refusalOfKey(tx, key);
        if (refusal != ALLOWED) {
            return refusal;
        }
        int view = viewOf(tx);
        if (!hasKey(presentKeys[view], key)) {
            return ABSENT;
        }
        refusal = refusalOfChange(tx, key);
        if (refusal != ALLOWED) {
            return refusal;
        }
        heldKeys[view] |= 1 << key;
        setCell(view, key, false, 0);
        return 0;
    }

    public int get(int tx, int key) {
        int refusal = refusalOfKey(tx, key);
        if (refusal != ALLOWED) {
            return refusal;
        }
        // Finding a key absent is a read of it too.
        readKeys[tx] |= 1 << key;
        int view = viewOf(tx);
        return hasKey(presentKeys[view], key) ? values[view * KEY_COUNT + key] : ABSENT;
    }

    public int save(int tx) {
        int refusal = refusalOfTx(tx);
        if (refusal != ALLOWED) {
            return refusal;
        }
        if (saves[tx] >= SAVE_LIMIT) {
            return FULL;
        }
        saves[tx]++;
        int view = viewOf(tx);
        copyFrame(view, tx * FRAMES_PER_TX + saves[tx]);
        return saves[tx];
    }

    public int undo(int tx) {
        int refusal = refusalOfTx(tx);
        if (refusal != ALLOWED) {
            return refusal;
        }
        int view = viewOf(tx);
        copyFrame(tx * FRAMES_PER_TX + saves[tx], view);
        if (saves[tx] > 0) {
            saves[tx]--;
        }
        return saves[tx];
    }

    public int commit(int tx) {
        int refusal = refusalOfTx(tx);
        if (refusal != ALLOWED) {
            return refusal;
        }
        active[tx] = false;
        int view = viewOf(tx);
        boolean readLate = (readKeys[tx] & lateKeys[tx]) != 0;
        if (strictly[tx] && heldKeys[view] != 0 && readLate) {
            return UNSAFE;
        }
        publish(view);
        return countKeys(heldKeys[view]);
    }

    public int abort(int tx) {
        int refusal = refusalOfTx(tx);
        if (refusal != ALLOWED) {
            return refusal;
        }
        active[tx] = false;
        int view = viewOf(tx);
        return countKeys(heldKeys[view]);
    }

    public int crash() {
        int aborted = 0;
        for (int tx = 0; tx < TX_COUNT; tx++) {
            if (active[tx]) {
                active[tx] = false;
                aborted++;
            }
        }
        return aborted;
    }

    public void vacuum() {
        // Older states live only in the frames of their transactions, and begin and save write
        // those anew before they are read: nothing is ever left over to clean up.
    }

    public int size(int tx) {
        int refusal = refusalOfTx(tx);
        if (refusal != ALLOWED) {
            return refusal;
        }
        int view = viewOf(tx);
        return countKeys(presentKeys[view]);
    }

    public int find(int tx, int value) {
        int refusal = refusalOfTx(tx);
        if (refusal != ALLOWED) {
            return refusal;
        }
        int view = viewOf(tx);
        for (int key = 0; key < KEY_COUNT; key++) {
            if (hasKey(presentKeys[view], key) && values[view * KEY_COUNT + key] == value) {
                return key;
            }
        }
        return ABSENT;
    }

    public int committed(int key) {
        if (isBadKey(key) || !hasKey(presentKeys[COMMITTED], key)) {
            return 0;
        }
        return values[COMMITTED * KEY_COUNT + key];
    }

    public int committedSize() {
        return countKeys(presentKeys[COMMITTED]);
    }

    private static boolean isBadTx(int tx) {
        return tx < 0 || tx >= TX_COUNT;
    }

    private static boolean isBadKey(int key) {
        return key < 0 || key >= KEY_COUNT;
    }

    private int refusalOfTx(int tx) {
        if (isBadTx(tx)) {
            return BAD_TX;
        }
        return active[tx] ? ALLOWED : IDLE;
    }

    private int refusalOfKey(int tx, int key) {
        int refusal = refusalOfTx(tx);
        if (refusal != ALLOWED) {
            return refusal;
        }
        return isBadKey(key) ? BAD_KEY : ALLOWED;
    }

    private int refusalOfChange(int tx, int key) {
        if (isHeldByAnother(tx, key)) {
            return BUSY;
        }
        return hasKey(lateKeys[tx], key) ? LATE : ALLOWED;
    }

    private boolean isHeldByAnother(int tx, int key) {
        for (int other = 0; other < TX_COUNT; other++) {
            int view = viewOf(other);
            // The view of an idle transaction is a leftover, so what it held doesn't count.
            if (other != tx && active[other] && hasKey(heldKeys[view], key)) {
                return true;
            }
        }
        return false;
    }

    private void publish(int view) {
        int held = heldKeys[view];
        for (int key = 0; key < KEY_COUNT; key++) {
            if (hasKey(held, key)) {
                boolean present = hasKey(presentKeys[view], key);
                setCell(COMMITTED, key, present, values[view * KEY_COUNT + key]);
            }
        }
        // Idle transactions may be marked along with the active ones: begin clears the mark.
        for (int tx = 0; tx < TX_COUNT; tx++) {
            lateKeys[tx] |= held;
        }
    }

    private static int viewOf(int tx) {
        return tx * FRAMES_PER_TX + VIEW;
    }

    private static boolean hasKey(int keys, int key) {
        return (keys >> key & 1) != 0;
    }

    private static int countKeys(int keys) {
        int count = 0;
        for (int key = 0; key < KEY_COUNT; key++) {
            count += keys >> key & 1;
        }
        return count;
    }

    private void setCell(int frame, int key, boolean present, int value) {
        if (present) {
            presentKeys[frame] |= 1 << key;
        } else {
            presentKeys[frame] &= ~(1 << key);
        }
        values[frame * KEY_COUNT + key] = value;
    }

    private void copyFrame(int from, int to) {
        presentKeys[to] = presentKeys[from];
        heldKeys[to] = heldKeys[from];
        for (int key = 0; key < KEY_COUNT; key++) {
            values[to * KEY_COUNT + key] = values[from * KEY_COUNT + key];
        }
    }
}
