/** The document's promises one by one: ordinary inputs, the edges it names, and wrong inputs. */
public final class PromisesTest {
    private static final int BAD_TX = -1;
    private static final int BAD_KEY = -2;
    private static final int IDLE = -3;
    private static final int ACTIVE = -4;
    private static final int BUSY = -5;
    private static final int LATE = -6;
    private static final int ABSENT = -7;
    private static final int FULL = -8;
    private static final int UNSAFE = -9;

    private static final int[] BAD_TXS = {-1, 5, 6, 8, Integer.MIN_VALUE, Integer.MAX_VALUE};
    private static final int[] BAD_KEYS = {-1, 8, 9, 32, Integer.MIN_VALUE, Integer.MAX_VALUE};

    public static void main(String[] args) {
        newObject();
        begin();
        beginTakesTheSnapshot();
        beginStartsAfresh();
        put();
        putBusy();
        putLate();
        remove();
        removeRefusals();
        get();
        getReads();
        save();
        undo();
        undoWithSavepoints();
        undoFreesKeys();
        commit();
        commitMergesKeyByKey();
        commitUnsafe();
        commitSafe();
        unsafeUndoes();
        abort();
        crash();
        vacuum();
        size();
        find();
        committed();
        committedSize();
        badTx();
        idleBeforeBadKey();
        badKey();
        Check.finish();
    }

    /** A table with 5 at key 0 and 6 at key 1, by a transaction that is idle again. */
    private static VersionHeap stocked() {
        VersionHeap x = new VersionHeap();
        x.begin(4, false);
        x.put(4, 0, 5);
        x.put(4, 1, 6);
        x.commit(4);
        return x;
    }

    private static void commitPut(VersionHeap x, int tx, int key, int value) {
        x.begin(tx, false);
        x.put(tx, key, value);
        x.commit(tx);
    }

    private static void newObject() {
        VersionHeap x = new VersionHeap();
        for (int tx = 0; tx < 5; tx++) {
            Check.due("1: size(" + tx + ")", x.size(tx), IDLE);
        }
        for (int key = 0; key < 8; key++) {
            Check.due("1: committed(" + key + ")", x.committed(key), 0);
        }
        Check.due("1: committedSize()", x.committedSize(), 0);
        Check.due("1: crash()", x.crash(), 0);
        new VersionHeap().begin(0, false);
        Check.due("1: objects share nothing", x.size(0), IDLE);
    }

    private static void begin() {
        VersionHeap x = new VersionHeap();
        for (int tx = 0; tx < 5; tx++) {
            Check.due("2: begin", x.begin(tx, tx % 2 == 0), 0);
            Check.due("2: begin again", x.begin(tx, false), ACTIVE);
            Check.due("2: begin again, strict", x.begin(tx, true), ACTIVE);
        }
        x.abort(2);
        Check.due("2: begin after abort", x.begin(2, true), 0);
        x.commit(2);
        Check.due("2: begin after commit", x.begin(2, true), 0);
        x.crash();
        Check.due("2: begin after crash", x.begin(2, true), 0);
    }

    private static void beginTakesTheSnapshot() {
        VersionHeap x = stocked();
        x.begin(0, false);
        commitPut(x, 1, 0, 50);
        commitPut(x, 1, 7, 70);
        x.begin(2, false);
        x.remove(2, 1);
        x.commit(2);
        Check.due("2: the old value", x.get(0, 0), 5);
        Check.due("2: a removed key", x.get(0, 1), 6);
        Check.due("2: a new key", x.get(0, 7), ABSENT);
        Check.due("2: the old size", x.size(0), 2);
        x.begin(3, false);
        Check.due("2: a later one's value", x.get(3, 0), 50);
        Check.due("2: a later one's absent key", x.get(3, 1), ABSENT);
        Check.due("2: a later one's new key", x.get(3, 7), 70);
        x.begin(2, false);
        x.put(2, 4, 4);
        x.begin(1, false);
        Check.due("2: others' changes aren't in the snapshot", x.get(1, 4), ABSENT);
        Check.due("2: a refused begin", x.begin(0, false), ACTIVE);
        Check.due("2: a refused begin keeps the snapshot", x.get(0, 0), 5);
    }

    private static void beginStartsAfresh() {
        VersionHeap x = stocked();
        x.begin(0, true);
        x.get(0, 0);
        x.put(0, 5, 5);
        x.save(0);
        x.save(0);
        commitPut(x, 1, 0, 50);
        x.abort(0);
        Check.due("2: begin anew", x.begin(0, true), 0);
        Check.due("2: changes are gone", x.get(0, 5), ABSENT);
        Check.due("2: savepoints are gone", x.save(0), 1);
        Check.due("2: nothing is late", x.put(0, 0, 51), 1);
        x.abort(0);
        x.begin(0, true);
        x.get(0, 3);
        x.abort(0);
        x.begin(0, true);
        commitPut(x, 1, 3, 30);
        x.put(0, 6, 6);
        Check.due("2: nothing is read", x.commit(0), 1);
    }

    private static void put() {
        VersionHeap x = stocked();
        x.begin(0, false);
        Check.due("3: put new", x.put(0, 2, 7), 0);
        Check.due("3: put again", x.put(0, 2, 8), 1);
        Check.due("3: its view", x.get(0, 2), 8);
        Check.due("3: put committed", x.put(0, 0, 9), 1);
        Check.due("3: its view of that", x.get(0, 0), 9);
        Check.due("3: the committed table", x.committed(0), 5);
        x.remove(0, 1);
        Check.due("3: put after remove", x.put(0, 1, 1), 0);
        int[] values = {Integer.MIN_VALUE, Integer.MAX_VALUE, 0, -1, -9};
        for (int key = 0; key < 8; key++) {
            for (int value : values) {
                x.put(0, key, value);
                Check.due("3: value " + value + " at " + key, x.get(0, key), value);
            }
        }
        Check.due("3: all keys held", x.commit(0), 8);
    }

    private static void putBusy() {
        VersionHeap x = stocked();
        for (int tx = 0; tx < 5; tx++) {
            x.begin(tx, false);
        }
        x.put(2, 0, 5);
        for (int tx = 0; tx < 5; tx++) {
            Check.due("3: put by " + tx, x.put(tx, 0, 7), tx == 2 ? 1 : BUSY);
        }
        Check.due("3: a refused put changes nothing", x.get(1, 0), 5);
        Check.due("3: and holds nothing", x.abort(1), 0);
        x.remove(3, 1);
        Check.due("3: held by a remove", x.put(4, 1, 7), BUSY);
        x.put(3, 7, 1);
        x.remove(3, 7);
        Check.due("3: held by a put and a remove", x.put(4, 7, 7), BUSY);
        x.abort(3);
        Check.due("3: free after abort", x.put(4, 1, 7), 1);
        x.crash();
        x.begin(0, false);
        Check.due("3: free after crash", x.put(0, 0, 7), 1);
    }

    private static void putLate() {
        VersionHeap x = stocked();
        x.begin(0, false);
        x.begin(3, false);
        commitPut(x, 1, 0, 5);
        Check.due("3: late, though the same value", x.put(0, 0, 7), LATE);
        Check.due("3: late for another too", x.put(3, 0, 7), LATE);
        Check.due("3: a refused put changes nothing", x.get(0, 0), 5);
        Check.due("3: another key isn't late", x.put(0, 1, 7), 1);
        x.begin(2, false);
        Check.due("3: not late for a new one", x.put(2, 0, 8), 1);
        Check.due("3: BUSY before LATE", x.put(0, 0, 7), BUSY);
        x.abort(2);
        Check.due("3: an abort leaves it late", x.put(0, 0, 7), LATE);
        x.undo(0);
        Check.due("3: an undo leaves it late", x.put(0, 0, 7), LATE);
        x.vacuum();
        Check.due("3: a vacuum leaves it late", x.put(0, 0, 7), LATE);
        x.begin(2, false);
        x.put(2, 4, 4);
        x.abort(2);
        Check.due("3: an abort makes nothing late", x.put(0, 4, 7), 0);
        x.begin(2, false);
        x.put(2, 5, 5);
        x.undo(2);
        x.put(2, 6, 6);
        x.commit(2);
        Check.due("3: an undone change makes nothing late", x.put(0, 5, 7), 0);
        Check.due("3: the other one does", x.put(0, 6, 7), LATE);
    }

    private static void remove() {
        VersionHeap x = stocked();
        x.begin(0, false);
        Check.due("4: remove", x.remove(0, 0), 0);
        Check.due("4: its view", x.get(0, 0), ABSENT);
        Check.due("4: the committed table", x.committed(0), 5);
        Check.due("4: remove again", x.remove(0, 0), ABSENT);
        Check.due("4: remove absent", x.remove(0, 7), ABSENT);
        x.put(0, 7, 1);
        Check.due("4: remove its own", x.remove(0, 7), 0);
        Check.due("4: it holds both", x.commit(0), 2);
        Check.due("4: committed", x.committedSize(), 1);
        x.begin(0, false);
        x.remove(0, 7);
        Check.due("4: a refused remove holds nothing", x.commit(0), 0);
    }

    private static void removeRefusals() {
        VersionHeap x = stocked();
        x.begin(0, false);
        x.begin(1, false);
        x.put(1, 0, 50);
        x.put(1, 7, 70);
        Check.due("4: BUSY", x.remove(0, 0), BUSY);
        Check.due("4: ABSENT before BUSY", x.remove(0, 7), ABSENT);
        x.commit(1);
        Check.due("4: LATE", x.remove(0, 0), LATE);
        Check.due("4: ABSENT before LATE", x.remove(0, 7), ABSENT);
        Check.due("4: refused removes change nothing", x.get(0, 0), 5);
        x.begin(1, false);
        x.put(1, 0, 51);
        Check.due("4: BUSY before LATE", x.remove(0, 0), BUSY);
        Check.due("4: refused removes hold nothing", x.abort(0), 0);
    }

    private static void get() {
        VersionHeap x = stocked();
        x.begin(0, false);
        x.begin(1, false);
        Check.due("5: get", x.get(0, 0), 5);
        Check.due("5: get absent", x.get(0, 7), ABSENT);
        x.put(0, 0, 50);
        Check.due("5: its own change", x.get(0, 0), 50);
        Check.due("5: not another's", x.get(1, 0), 5);
        x.put(0, 1, ABSENT);
        Check.due("5: a value like ABSENT", x.get(0, 1), ABSENT);
        Check.due("5: is there all the same", x.size(0), 2);
        x.commit(0);
        Check.due("5: not after its commit either", x.get(1, 0), 5);
    }

    /** Whether a strict transaction is UNSAFE tells what it has read. */
    private static void getReads() {
        VersionHeap x = stocked();
        x.begin(0, true);
        Check.due("5: an absent key", x.get(0, 3), ABSENT);
        x.put(0, 7, 7);
        commitPut(x, 1, 3, 30);
        Check.due("5: is read too", x.commit(0), UNSAFE);
        x.begin(0, true);
        commitPut(x, 1, 3, 31);
        Check.due("5: a get of a key that is late already", x.get(0, 3), 30);
        x.put(0, 7, 7);
        Check.due("5: reads it", x.commit(0), UNSAFE);
        x.begin(0, true);
        x.put(0, 3, 33);
        x.get(0, 3);
        x.undo(0);
        commitPut(x, 1, 3, 34);
        x.put(0, 7, 7);
        Check.due("5: a get of its own change reads", x.commit(0), UNSAFE);
        x.begin(0, true);
        for (int key : BAD_KEYS) {
            x.get(0, key);
        }
        x.begin(1, false);
        for (int key = 0; key < 7; key++) {
            x.put(1, key, 1);
        }
        x.commit(1);
        x.put(0, 7, 7);
        Check.due("5: a refused get reads nothing", x.commit(0), 1);
    }

    private static void save() {
        VersionHeap x = new VersionHeap();
        x.begin(0, false);
        x.begin(1, false);
        Check.due("6: first", x.save(0), 1);
        Check.due("6: second", x.save(0), 2);
        Check.due("6: third", x.save(0), 3);
        Check.due("6: fourth", x.save(0), FULL);
        Check.due("6: fourth again", x.save(0), FULL);
        Check.due("6: another's first", x.save(1), 1);
        x.undo(0);
        Check.due("6: third again", x.save(0), 3);
        x.put(0, 0, 1);
        Check.due("6: full", x.save(0), FULL);
        x.undo(0);
        Check.due("6: a refused save sets no mark", x.get(0, 0), ABSENT);
    }

    private static void undo() {
        VersionHeap x = stocked();
        x.begin(0, false);
        Check.due("7: nothing to undo", x.undo(0), 0);
        x.put(0, 0, 50);
        x.put(0, 7, 70);
        x.remove(0, 1);
        Check.due("7: without savepoints", x.undo(0), 0);
        Check.due("7: value is back", x.get(0, 0), 5);
        Check.due("7: removed key is back", x.get(0, 1), 6);
        Check.due("7: new key is gone", x.get(0, 7), ABSENT);
        commitPut(x, 1, 0, 51);
        x.put(0, 7, 71);
        x.undo(0);
        Check.due("7: back to the snapshot, not the committed table", x.get(0, 0), 5);
        Check.due("7: still active, holding nothing", x.commit(0), 0);
    }

    private static void undoWithSavepoints() {
        VersionHeap x = stocked();
        x.begin(0, false);
        x.put(0, 0, 10);
        x.save(0);
        x.put(0, 0, 20);
        x.remove(0, 1);
        x.save(0);
        x.put(0, 0, 30);
        x.put(0, 1, 31);
        x.save(0);
        x.put(0, 2, 40);
        Check.due("7: to the third", x.undo(0), 2);
        Check.due("7: key 2 there", x.get(0, 2), ABSENT);
        Check.due("7: key 0 there", x.get(0, 0), 30);
        Check.due("7: to the second", x.undo(0), 1);
        Check.due("7: key 0 there", x.get(0, 0), 20);
        Check.due("7: key 1 there", x.get(0, 1), ABSENT);
        Check.due("7: to the first", x.undo(0), 0);
        Check.due("7: key 0 there", x.get(0, 0), 10);
        Check.due("7: key 1 there", x.get(0, 1), 6);
        Check.due("7: to the beginning", x.undo(0), 0);
        Check.due("7: key 0 there", x.get(0, 0), 5);
        x.put(0, 3, 3);
        x.save(0);
        x.put(0, 4, 4);
        x.undo(0);
        Check.due("7: what the savepoint had is still held", x.commit(0), 1);
        Check.due("7: and committed", x.committed(3), 3);
        Check.due("7: the other isn't", x.committed(4), 0);
    }

    private static void undoFreesKeys() {
        VersionHeap x = stocked();
        x.begin(0, true);
        x.begin(1, false);
        x.put(0, 0, 10);
        x.save(0);
        x.put(0, 0, 11);
        x.put(0, 1, 12);
        x.get(0, 1);
        x.undo(0);
        Check.due("7: held since before the savepoint", x.put(1, 0, 7), BUSY);
        Check.due("7: no longer held", x.put(1, 1, 7), 1);
        x.commit(1);
        Check.due("7: now late", x.put(0, 1, 12), LATE);
        Check.due("7: read stays read", x.commit(0), UNSAFE);
    }

    private static void commit() {
        VersionHeap x = new VersionHeap();
        x.begin(0, false);
        Check.due("8: nothing held", x.commit(0), 0);
        Check.due("8: idle then", x.commit(0), IDLE);
        x.begin(0, true);
        x.put(0, 0, 1);
        x.put(0, 0, 2);
        x.put(0, 7, 3);
        x.put(0, 4, 4);
        x.remove(0, 4);
        Check.due("8: keys, not changes", x.commit(0), 3);
        Check.due("8: idle then", x.get(0, 0), IDLE);
        Check.due("8: committed(0)", x.committed(0), 2);
        Check.due("8: committed(7)", x.committed(7), 3);
        Check.due("8: committed(4)", x.committed(4), 0);
        Check.due("8: committedSize()", x.committedSize(), 2);
        x.begin(0, true);
        x.remove(0, 7);
        Check.due("8: a remove", x.commit(0), 1);
        Check.due("8: is committed", x.committedSize(), 1);
        x.begin(1, false);
        Check.due("8: free then", x.put(1, 7, 1), 0);
    }

    private static void commitMergesKeyByKey() {
        VersionHeap x = stocked();
        x.begin(0, false);
        x.begin(1, false);
        x.put(0, 0, 50);
        x.put(1, 1, 60);
        x.put(1, 2, 70);
        Check.due("8: the one", x.commit(1), 2);
        Check.due("8: the other", x.commit(0), 1);
        Check.due("8: key 0", x.committed(0), 50);
        Check.due("8: key 1 isn't set back", x.committed(1), 60);
        Check.due("8: key 2 neither", x.committed(2), 70);
    }

    private static void commitUnsafe() {
        VersionHeap x = stocked();
        x.begin(0, true);
        x.begin(1, true);
        x.get(0, 0);
        x.get(0, 1);
        x.get(1, 0);
        x.get(1, 1);
        x.put(0, 0, 10);
        x.put(1, 1, 20);
        Check.due("8: write skew, the first", x.commit(0), 1);
        Check.due("8: write skew, the second", x.commit(1), UNSAFE);
        Check.due("8: key 0", x.committed(0), 10);
        Check.due("8: key 1", x.committed(1), 6);
        x.begin(0, true);
        x.get(0, 7);
        x.put(0, 6, 1);
        commitPut(x, 1, 7, 1);
        x.begin(1, false);
        x.remove(1, 7);
        x.commit(1);
        Check.due("8: late, though as it was", x.commit(0), UNSAFE);
    }

    private static void commitSafe() {
        VersionHeap x = stocked();
        for (int tx = 0; tx < 4; tx++) {
            x.begin(tx, tx != 0);
            x.size(tx);
            x.find(tx, 5);
            x.put(tx, 4 + tx, 1);
        }
        x.get(0, 0);
        x.get(1, 1);
        x.get(2, 0);
        x.undo(2);
        x.committed(0);
        x.committedSize();
        commitPut(x, 4, 0, 50);
        Check.due("8: not strict", x.commit(0), 1);
        Check.due("8: read, but not late", x.commit(1), 1);
        Check.due("8: holds nothing", x.commit(2), 0);
        Check.due("8: size and find read nothing", x.commit(3), 1);
        x.begin(0, true);
        x.get(0, 0);
        x.put(0, 0, 51);
        Check.due("8: its own commit makes nothing late", x.commit(0), 1);
        x.begin(0, true);
        x.get(0, 0);
        x.put(0, 1, 1);
        Check.due("8: nor a commit before it began", x.commit(0), 1);
        x.begin(0, true);
        commitPut(x, 1, 1, 2);
        x.put(0, 1, 3);
        x.remove(0, 1);
        x.put(0, 2, 2);
        Check.due("8: put and remove read nothing", x.commit(0), 1);
    }

    private static void unsafeUndoes() {
        VersionHeap x = stocked();
        x.begin(0, true);
        x.begin(2, true);
        x.get(0, 0);
        x.get(2, 3);
        x.put(2, 7, 7);
        x.put(0, 3, 30);
        x.remove(0, 1);
        commitPut(x, 1, 0, 50);
        Check.due("8: unsafe", x.commit(0), UNSAFE);
        Check.due("8: idle then", x.commit(0), IDLE);
        Check.due("8: its put is undone", x.committed(3), 0);
        Check.due("8: its remove is undone", x.committed(1), 6);
        Check.due("8: it makes nothing late to put", x.put(2, 1, 1), 1);
        Check.due("8: nor unsafe", x.commit(2), 2);
        Check.due("8: begin again", x.begin(0, true), 0);
        Check.due("8: nothing is left", x.get(0, 3), ABSENT);
    }

    private static void abort() {
        VersionHeap x = stocked();
        x.begin(0, false);
        Check.due("9: nothing held", x.abort(0), 0);
        Check.due("9: idle then", x.abort(0), IDLE);
        x.begin(0, true);
        x.get(0, 7);
        x.put(0, 0, 1);
        x.put(0, 0, 2);
        x.remove(0, 1);
        x.save(0);
        x.put(0, 5, 5);
        commitPut(x, 1, 7, 7);
        Check.due("9: keys, not changes, and never UNSAFE", x.abort(0), 3);
        Check.due("9: idle then", x.get(0, 0), IDLE);
        Check.due("9: undone(0)", x.committed(0), 5);
        Check.due("9: undone(1)", x.committed(1), 6);
        Check.due("9: undone(5)", x.committed(5), 0);
        x.begin(0, false);
        x.put(0, 0, 1);
        x.save(0);
        x.put(0, 1, 1);
        x.undo(0);
        Check.due("9: undone keys aren't held", x.abort(0), 1);
    }

    private static void crash() {
        VersionHeap x = stocked();
        Check.due("10: none active", x.crash(), 0);
        x.begin(0, false);
        x.begin(3, true);
        x.begin(4, true);
        x.put(0, 0, 50);
        x.save(0);
        x.remove(3, 1);
        Check.due("10: three active", x.crash(), 3);
        for (int tx = 0; tx < 5; tx++) {
            Check.due("10: idle then", x.size(tx), IDLE);
        }
        Check.due("10: the committed table stays", x.committed(0), 5);
        Check.due("10: and its size", x.committedSize(), 2);
        Check.due("10: none active", x.crash(), 0);
        for (int tx = 0; tx < 5; tx++) {
            Check.due("10: begin then", x.begin(tx, false), 0);
        }
        Check.due("10: nothing is held", x.put(1, 0, 1), 1);
        Check.due("10: no savepoints", x.save(0), 1);
        Check.due("10: all active", x.crash(), 5);
    }

    private static void vacuum() {
        VersionHeap x = stocked();
        x.vacuum();
        Check.due("11: none begins", x.size(0), IDLE);
        x.begin(0, true);
        x.get(0, 1);
        x.put(0, 2, 20);
        x.save(0);
        x.put(0, 3, 30);
        commitPut(x, 1, 0, 50);
        x.begin(2, false);
        x.remove(2, 1);
        x.commit(2);
        x.vacuum();
        Check.due("11: the snapshot", x.get(0, 0), 5);
        Check.due("11: a removed key in it", x.get(0, 1), 6);
        Check.due("11: changes", x.get(0, 3), 30);
        Check.due("11: late", x.put(0, 0, 7), LATE);
        x.begin(1, false);
        Check.due("11: held", x.put(1, 3, 7), BUSY);
        Check.due("11: savepoints", x.undo(0), 0);
        Check.due("11: undone", x.get(0, 3), ABSENT);
        Check.due("11: the committed table", x.committed(0), 50);
        Check.due("11: its size", x.committedSize(), 1);
        x.vacuum();
        Check.due("11: read", x.commit(0), UNSAFE);
    }

    private static void size() {
        VersionHeap x = stocked();
        x.begin(0, false);
        x.begin(1, false);
        Check.due("12: the snapshot's", x.size(0), 2);
        x.put(0, 0, 1);
        Check.due("12: after a change", x.size(0), 2);
        for (int key = 2; key < 8; key++) {
            x.put(0, key, 0);
            Check.due("12: after a put", x.size(0), key + 1);
        }
        x.remove(0, 7);
        x.remove(0, 0);
        Check.due("12: after removes", x.size(0), 6);
        Check.due("12: another's", x.size(1), 2);
        x.commit(0);
        Check.due("12: another's after commit", x.size(1), 2);
        Check.due("12: idle", x.size(0), IDLE);
    }

    private static void find() {
        VersionHeap x = stocked();
        x.begin(0, false);
        x.begin(1, false);
        Check.due("13: key 0", x.find(0, 5), 0);
        Check.due("13: key 1", x.find(0, 6), 1);
        Check.due("13: none", x.find(0, 7), ABSENT);
        Check.due("13: absent keys have no value", x.find(0, 0), ABSENT);
        x.put(0, 7, 6);
        Check.due("13: the smallest", x.find(0, 6), 1);
        x.remove(0, 1);
        Check.due("13: a removed key isn't there", x.find(0, 6), 7);
        Check.due("13: its value isn't 0", x.find(0, 0), ABSENT);
        x.put(0, 6, ABSENT);
        Check.due("13: a value like ABSENT", x.find(0, ABSENT), 6);
        x.put(0, 5, 0);
        Check.due("13: a value of 0", x.find(0, 0), 5);
        x.put(0, 4, Integer.MIN_VALUE);
        Check.due("13: the least value", x.find(0, Integer.MIN_VALUE), 4);
        Check.due("13: another's view", x.find(1, 6), 1);
        Check.due("13: another's changes", x.find(1, ABSENT), ABSENT);
        x.abort(0);
        Check.due("13: idle", x.find(0, 5), IDLE);
    }

    private static void committed() {
        VersionHeap x = stocked();
        Check.due("14: key 0", x.committed(0), 5);
        Check.due("14: absent", x.committed(2), 0);
        for (int key : BAD_KEYS) {
            Check.due("14: committed(" + key + ")", x.committed(key), 0);
        }
        x.begin(0, false);
        x.put(0, 0, 50);
        x.put(0, 7, -7);
        Check.due("14: not yet", x.committed(0), 5);
        x.commit(0);
        Check.due("14: now", x.committed(0), 50);
        Check.due("14: key 7", x.committed(7), -7);
        x.begin(0, false);
        x.remove(0, 0);
        Check.due("14: not yet removed", x.committed(0), 50);
        x.commit(0);
        Check.due("14: removed", x.committed(0), 0);
    }

    private static void committedSize() {
        VersionHeap x = stocked();
        Check.due("15: two", x.committedSize(), 2);
        x.begin(0, false);
        for (int key = 0; key < 8; key++) {
            x.put(0, key, 0);
        }
        Check.due("15: not yet", x.committedSize(), 2);
        x.commit(0);
        Check.due("15: eight, all with value 0", x.committedSize(), 8);
        x.begin(0, false);
        x.remove(0, 0);
        x.remove(0, 7);
        x.commit(0);
        Check.due("15: six", x.committedSize(), 6);
    }

    private static void badTx() {
        VersionHeap x = stocked();
        x.begin(0, false);
        for (int tx : BAD_TXS) {
            for (int key : new int[] {0, 7, -1, 8}) {
                Check.due("put by " + tx, x.put(tx, key, 1), BAD_TX);
                Check.due("remove by " + tx, x.remove(tx, key), BAD_TX);
                Check.due("get by " + tx, x.get(tx, key), BAD_TX);
            }
            Check.due("begin by " + tx, x.begin(tx, false), BAD_TX);
            Check.due("strict begin by " + tx, x.begin(tx, true), BAD_TX);
            Check.due("save by " + tx, x.save(tx), BAD_TX);
            Check.due("undo by " + tx, x.undo(tx), BAD_TX);
            Check.due("commit by " + tx, x.commit(tx), BAD_TX);
            Check.due("abort by " + tx, x.abort(tx), BAD_TX);
            Check.due("size by " + tx, x.size(tx), BAD_TX);
            Check.due("find by " + tx, x.find(tx, 5), BAD_TX);
        }
        Check.due("refused calls begin and end none", x.crash(), 1);
    }

    private static void idleBeforeBadKey() {
        VersionHeap x = stocked();
        for (int tx = 0; tx < 5; tx++) {
            for (int key : new int[] {0, 7, -1, 8}) {
                Check.due("put by idle", x.put(tx, key, 1), IDLE);
                Check.due("remove by idle", x.remove(tx, key), IDLE);
                Check.due("get by idle", x.get(tx, key), IDLE);
            }
            Check.due("save by idle", x.save(tx), IDLE);
            Check.due("undo by idle", x.undo(tx), IDLE);
            Check.due("commit by idle", x.commit(tx), IDLE);
            Check.due("abort by idle", x.abort(tx), IDLE);
            Check.due("size by idle", x.size(tx), IDLE);
            Check.due("find by idle", x.find(tx, 5), IDLE);
        }
        Check.due("refused calls begin none", x.crash(), 0);
        Check.due("and commit nothing", x.committedSize(), 2);
    }

    private static void badKey() {
        VersionHeap x = stocked();
        x.begin(0, false);
        for (int key : BAD_KEYS) {
            Check.due("put at " + key, x.put(0, key, 1), BAD_KEY);
            Check.due("remove at " + key, x.remove(0, key), BAD_KEY);
            Check.due("get at " + key, x.get(0, key), BAD_KEY);
        }
        Check.due("refused calls change nothing", x.size(0), 2);
        Check.due("and hold nothing", x.commit(0), 0);
    }
}
