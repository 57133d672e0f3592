import java.util.ArrayList;
import java.util.HashSet;
import java.util.List;
import java.util.Map;
import java.util.Set;
import java.util.TreeMap;

/**
 * The document's terms, word by word and without any thrift: a view is always worked out anew from
 * the snapshot and the list of changes, and lateness from the list of all commits.
 */
final class Model {
    private record Change(int key, Integer value) {
    }

    private record Commit(int tx, long time, Set<Integer> held) {
    }

    private static final class Tx {
        final long began;
        final boolean strict;
        final Map<Integer, Integer> snapshot;
        final List<Change> changes = new ArrayList<>();
        final List<Integer> marks = new ArrayList<>();
        final Set<Integer> read = new HashSet<>();

        Tx(long began, boolean strict, Map<Integer, Integer> table) {
            this.began = began;
            this.strict = strict;
            this.snapshot = new TreeMap<>(table);
        }

        Map<Integer, Integer> view() {
            Map<Integer, Integer> view = new TreeMap<>(snapshot);
            for (Change change : changes) {
                apply(change, view);
            }
            return view;
        }

        Set<Integer> held() {
            Set<Integer> held = new HashSet<>();
            for (Change change : changes) {
                held.add(change.key());
            }
            return held;
        }
    }

    private final Tx[] txs = new Tx[5];
    private final List<Commit> commits = new ArrayList<>();
    private final Map<Integer, Integer> table = new TreeMap<>();
    private long time = 0;

    private static void apply(Change change, Map<Integer, Integer> to) {
        if (change.value() == null) {
            to.remove(change.key());
        } else {
            to.put(change.key(), change.value());
        }
    }

    private boolean badTx(int tx) {
        return tx < 0 || tx > 4;
    }

    private boolean badKey(int key) {
        return key < 0 || key > 7;
    }

    private int refusal(int tx) {
        return badTx(tx) ? VersionHeap.BAD_TX : txs[tx] == null ? VersionHeap.IDLE : 0;
    }

    private int refusal(int tx, int key) {
        int refusal = refusal(tx);
        return refusal != 0 ? refusal : badKey(key) ? VersionHeap.BAD_KEY : 0;
    }

    private boolean busy(int tx, int key) {
        for (int other = 0; other < 5; other++) {
            if (other != tx && txs[other] != null && txs[other].held().contains(key)) {
                return true;
            }
        }
        return false;
    }

    private boolean late(int tx, int key) {
        for (Commit commit : commits) {
            if (commit.time() > txs[tx].began && commit.tx() != tx && commit.held().contains(key)) {
                return true;
            }
        }
        return false;
    }

    private int change(int tx, Change change, int answer) {
        if (busy(tx, change.key())) {
            return VersionHeap.BUSY;
        }
        if (late(tx, change.key())) {
            return VersionHeap.LATE;
        }
        txs[tx].changes.add(change);
        return answer;
    }

    int begin(int tx, boolean strict) {
        if (badTx(tx)) {
            return VersionHeap.BAD_TX;
        }
        if (txs[tx] != null) {
            return VersionHeap.ACTIVE;
        }
        txs[tx] = new Tx(++time, strict, table);
        return 0;
    }

    int put(int tx, int key, int value) {
        int refusal = refusal(tx, key);
        if (refusal != 0) {
            return refusal;
        }
        return change(tx, new Change(key, value), txs[tx].view().containsKey(key) ? 1 : 0);
    }

    int remove(int tx, int key) {
        int refusal = refusal(tx, key);
        if (refusal != 0) {
            return refusal;
        }
        if (!txs[tx].view().containsKey(key)) {
            return VersionHeap.ABSENT;
        }
        return change(tx, new Change(key, null), 0);
    }

    int get(int tx, int key) {
        int refusal = refusal(tx, key);
        if (refusal != 0) {
            return refusal;
        }
        txs[tx].read.add(key);
        return txs[tx].view().getOrDefault(key, VersionHeap.ABSENT);
    }

    int save(int tx) {
        int refusal = refusal(tx);
        if (refusal != 0) {
            return refusal;
        }
        if (txs[tx].marks.size() == 3) {
            return VersionHeap.FULL;
        }
        txs[tx].marks.add(txs[tx].changes.size());
        return txs[tx].marks.size();
    }

    int undo(int tx) {
        int refusal = refusal(tx);
        if (refusal != 0) {
            return refusal;
        }
        List<Integer> marks = txs[tx].marks;
        int mark = marks.isEmpty() ? 0 : marks.remove(marks.size() - 1);
        List<Change> changes = txs[tx].changes;
        changes.subList(mark, changes.size()).clear();
        return marks.size();
    }

    int commit(int tx) {
        int refusal = refusal(tx);
        if (refusal != 0) {
            return refusal;
        }
        Tx own = txs[tx];
        Set<Integer> held = own.held();
        boolean readLate = own.read.stream().anyMatch(key -> late(tx, key));
        txs[tx] = null;
        if (own.strict && !held.isEmpty() && readLate) {
            return VersionHeap.UNSAFE;
        }
        for (Change change : own.changes) {
            apply(change, table);
        }
        commits.add(new Commit(tx, ++time, held));
        return held.size();
    }

    int abort(int tx) {
        int refusal = refusal(tx);
        if (refusal != 0) {
            return refusal;
        }
        int held = txs[tx].held().size();
        txs[tx] = null;
        return held;
    }

    int crash() {
        int aborted = 0;
        for (int tx = 0; tx < 5; tx++) {
            if (abort(tx) != VersionHeap.IDLE) {
                aborted++;
            }
        }
        return aborted;
    }

    int size(int tx) {
        int refusal = refusal(tx);
        return refusal != 0 ? refusal : txs[tx].view().size();
    }

    int find(int tx, int value) {
        int refusal = refusal(tx);
        if (refusal != 0) {
            return refusal;
        }
        for (Map.Entry<Integer, Integer> row : txs[tx].view().entrySet()) {
            if (row.getValue() == value) {
                return row.getKey();
            }
        }
        return VersionHeap.ABSENT;
    }

    int committed(int key) {
        return table.getOrDefault(key, 0);
    }

    int committedSize() {
        return table.size();
    }
}
