import java.util.Map;
import java.util.TreeMap;

/** Long mixed runs of calls, each answer held against Model's. */
public final class ModelTest {
    private static final int RUNS = 1500;
    private static final int CALLS = 512;

    private static final String[] CALL_NAMES = {
        "begin", "put", "remove", "get", "save", "undo", "commit", "abort", "crash", "vacuum",
        "size", "find", "committed", "committedSize"};

    // How often each call comes, by the kind of run: alike, busy with changes, busy with commits.
    private static final int[][] WEIGHTS = {
        {4, 4, 4, 4, 4, 4, 4, 4, 1, 4, 4, 4, 4, 4},
        {16, 40, 16, 24, 10, 8, 10, 2, 0, 1, 3, 3, 3, 2},
        {40, 40, 10, 40, 2, 2, 24, 2, 0, 2, 4, 4, 4, 4}};

    private static final int[] WRONG = {-1, 5, 8, 9, 31, 32, 40, -8, Integer.MIN_VALUE,
        Integer.MAX_VALUE};
    private static final int[] VALUES = {0, 1, 2, 3, -1, -3, -7, -9, Integer.MIN_VALUE,
        Integer.MAX_VALUE};

    private static final Map<String, Integer> SEEN = new TreeMap<>();

    // A generator of our own with a fixed start: every run of the test makes the same calls.
    private static long state = 20261115L;

    public static void main(String[] args) {
        for (int run = 0; run < RUNS; run++) {
            oneRun(run);
        }
        everyRefusalCameUp();
        Check.finish();
    }

    private static int below(int bound) {
        state = state * 6364136223846793005L + 1442695040888963407L;
        return (int) ((state >>> 33) % bound);
    }

    private static int oneOf(int[] all) {
        return all[below(all.length)];
    }

    /** Mostly one of the first few, now and then a wrong one. */
    private static int number(int few) {
        return below(40) == 0 ? oneOf(WRONG) : below(few);
    }

    private static String callName(int[] weights) {
        int sum = 0;
        for (int weight : weights) {
            sum += weight;
        }
        int left = below(sum);
        int call = 0;
        while (left >= weights[call]) {
            left -= weights[call];
            call++;
        }
        return CALL_NAMES[call];
    }

    private static void oneRun(int run) {
        VersionHeap heap = new VersionHeap();
        Model model = new Model();
        int[] weights = WEIGHTS[run % WEIGHTS.length];
        int txs = 2 + run / WEIGHTS.length % 4;
        int keys = 2 + run / 7 % 7;
        for (int call = 0; call < CALLS; call++) {
            oneCall("run " + run + ", call " + call + ": ", heap, model, callName(weights),
                    number(txs), number(keys));
        }
    }

    private static void oneCall(String at, VersionHeap heap, Model model, String name, int tx,
            int key) {
        int value = oneOf(VALUES);
        boolean strict = below(2) == 0;
        long got = 0;
        long want = 0;
        switch (name) {
            case "begin" -> { got = heap.begin(tx, strict); want = model.begin(tx, strict); }
            case "put" -> { got = heap.put(tx, key, value); want = model.put(tx, key, value); }
            case "remove" -> { got = heap.remove(tx, key); want = model.remove(tx, key); }
            case "get" -> { got = heap.get(tx, key); want = model.get(tx, key); }
            case "save" -> { got = heap.save(tx); want = model.save(tx); }
            case "undo" -> { got = heap.undo(tx); want = model.undo(tx); }
            case "commit" -> { got = heap.commit(tx); want = model.commit(tx); }
            case "abort" -> { got = heap.abort(tx); want = model.abort(tx); }
            case "crash" -> { got = heap.crash(); want = model.crash(); }
            case "vacuum" -> heap.vacuum();
            case "size" -> { got = heap.size(tx); want = model.size(tx); }
            case "find" -> { got = heap.find(tx, value); want = model.find(tx, value); }
            case "committed" -> { got = heap.committed(key); want = model.committed(key); }
            default -> { got = heap.committedSize(); want = model.committedSize(); }
        }
        SEEN.merge(name + " " + want, 1, Integer::sum);
        Check.due(at + name + " with tx " + tx + ", key " + key + ", value " + value + ", strict "
                + strict, got, want);
    }

    /** Runs in which a refusal never comes up would tell nothing of it. */
    private static void everyRefusalCameUp() {
        String[] due = {
            "begin -1", "begin -4", "put -1", "put -2", "put -3", "put -5", "put -6", "remove -1",
            "remove -2", "remove -3", "remove -5", "remove -6", "remove -7", "get -2", "save -1",
            "save -3", "save -8", "undo -1", "undo -3", "undo 2", "commit -1", "commit -3",
            "commit -9", "commit 3", "abort -1", "abort -3", "abort 3", "crash 4", "size -1",
            "size -3", "find -1", "find -3", "find -7", "find 3"};
        for (String answer : due) {
            Check.holds("'" + answer + "' came up in the runs at least ten times",
                    SEEN.getOrDefault(answer, 0) >= 10);
        }
    }
}
