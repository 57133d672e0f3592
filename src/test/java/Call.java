import java.util.ArrayList;
import java.util.List;

/** One call on a VersionHeap as a value, so that tests can write runs of calls as text. */
record Call(String name, int first, int second, int third) {

    /** A call of the document's face by its name; a boolean is 1 for true. */
    int on(VersionHeap heap) {
        switch (name) {
            case "begin": return heap.begin(first, second == 1);
            case "put": return heap.put(first, second, third);
            case "remove": return heap.remove(first, second);
            case "get": return heap.get(first, second);
            case "save": return heap.save(first);
            case "undo": return heap.undo(first);
            case "commit": return heap.commit(first);
            case "abort": return heap.abort(first);
            case "crash": return heap.crash();
            case "vacuum": heap.vacuum(); return 0;
            case "size": return heap.size(first);
            case "find": return heap.find(first, second);
            case "committed": return heap.committed(first);
            case "committedSize": return heap.committedSize();
            default: throw new IllegalArgumentException(name);
        }
    }

    /** A call as it is written in a test, for example "begin 0 strict" or "put 0 7 MIN". */
    static Call of(String text) {
        String[] words = text.trim().split(" +");
        int[] numbers = new int[3];
        for (int at = 1; at < words.length; at++) {
            numbers[at - 1] = number(words[at]);
        }
        Call call = new Call(words[0], numbers[0], numbers[1], numbers[2]);
        if (words.length - 1 != call.arity()) {
            throw new IllegalArgumentException(text);
        }
        return call;
    }

    /** Calls with semicolons between them. */
    static List<Call> all(String text) {
        List<Call> calls = new ArrayList<>();
        for (String one : text.split(";")) {
            calls.add(of(one));
        }
        return calls;
    }

    static int number(String word) {
        switch (word) {
            case "strict": return 1;
            case "loose": return 0;
            case "MIN": return Integer.MIN_VALUE;
            case "MAX": return Integer.MAX_VALUE;
            case "BAD_TX": return -1;
            case "BAD_KEY": return -2;
            case "IDLE": return -3;
            case "ACTIVE": return -4;
            case "BUSY": return -5;
            case "LATE": return -6;
            case "ABSENT": return -7;
            case "FULL": return -8;
            case "UNSAFE": return -9;
            default: return Integer.parseInt(word);
        }
    }

    private int arity() {
        switch (name) {
            case "crash": case "vacuum": case "committedSize": return 0;
            case "put": return 3;
            case "begin": case "remove": case "get": case "find": return 2;
            default: return 1;
        }
    }
}
