import java.util.StringJoiner;

/**
 * The document's sentences that name a boundary case, one by one. Each test bears the sentence's
 * place and words as its title and is a run of calls on a new object, every call with its answer.
 */
public final class BoundaryTest {
    private static final int CALLS_AT_MOST = 512;

    // Wrong numbers next to the right ones, at the ends of int, and such as a mask, a product or a
    // narrower type would take for right ones: 32 and -32 for 0 in a shift, 858993460 for 0 in a
    // product with 5, 536870912 in one with 8, 256 and 65536 in a byte and a short.
    private static final int[] BAD_TXS = {-1, 5, 6, 7, 8, 25, 32, -32, 256, 65536, 536870912,
        858993459, 858993460, -858993459, Integer.MIN_VALUE, Integer.MAX_VALUE};
    private static final int[] BAD_KEYS = {-1, 8, 9, 16, 31, 32, 33, 39, 64, -8, -32, 256, 65536,
        536870912, Integer.MIN_VALUE, Integer.MAX_VALUE};

    public static void main(String[] args) {
        whatItIs();
        atMost512Calls();
        transactionsAndViews();
        held();
        late();
        orderOfRefusals();
        newObject();
        begin();
        put();
        remove();
        get();
        getReads();
        save();
        undo();
        commit();
        commitUnsafe();
        commitNotUnsafe();
        abort();
        crash();
        vacuum();
        size();
        find();
        committed();
        committedSize();
        Check.finish();
    }

    /** Carries out the lines on a new object; each has calls of the form "put 0 1 5 = 0". */
    private static int due(String sentence, String... lines) {
        VersionHeap heap = new VersionHeap();
        int calls = 0;
        for (String line : lines) {
            for (String step : line.split(";")) {
                String[] sides = step.split("=");
                int want = sides.length == 1 ? 0 : Call.number(sides[1].trim());
                if (sides.length == 1 && !step.trim().equals("vacuum")) {
                    throw new IllegalArgumentException("no answer for '" + step + "'");
                }
                calls++;
                Check.due(sentence + ": call " + calls + ", '" + sides[0].trim() + "',",
                        Call.of(sides[0]).on(heap), want);
            }
        }
        Check.holds(sentence + ": an object is used for at most 512 calls", calls <= CALLS_AT_MOST);
        return calls;
    }

    /** The line once for each number, which stands in the place of each '#'. */
    private static String each(int[] numbers, String line) {
        StringJoiner all = new StringJoiner("; ");
        for (int number : numbers) {
            all.add(line.replace("#", "" + number));
        }
        return all.toString();
    }

    private static String each(int from, int to, String line) {
        int[] numbers = new int[to - from + 1];
        for (int at = 0; at < numbers.length; at++) {
            numbers[at] = from + at;
        }
        return each(numbers, line);
    }

    private static String times(int count, String line) {
        return each(1, count, line);
    }

    private static void whatItIs() {
        due("What it is: eight KEYS (0 to 7)",
                "begin 0 loose = 0",
                each(0, 7, "put 0 # 1# = 0"),
                each(0, 7, "get 0 # = 1#"),
                "size 0 = 8; commit 0 = 8; committedSize = 8",
                each(0, 7, "committed # = 1#"),
                "begin 4 loose = 0",
                each(0, 7, "find 4 1# = #"),
                each(0, 7, "remove 4 # = 0"),
                "size 4 = 0; commit 4 = 8; committedSize = 0");
        due("What it is: each absent or with a value (an int)",
                "begin 0 loose = 0; get 0 0 = ABSENT",
                "put 0 0 MIN = 0; get 0 0 = MIN; put 0 7 MAX = 0; get 0 7 = MAX",
                "put 0 1 -1 = 0; get 0 1 = -1; put 0 6 0 = 0; get 0 6 = 0",
                "put 0 2 255 = 0; put 0 3 65535 = 0; put 0 4 -65536 = 0",
                "commit 0 = 7; begin 1 loose = 0",
                "get 1 0 = MIN; get 1 7 = MAX; get 1 1 = -1; get 1 6 = 0; get 1 5 = ABSENT",
                "get 1 2 = 255; get 1 3 = 65535; get 1 4 = -65536",
                "committed 0 = MIN; committed 7 = MAX; committed 4 = -65536; size 1 = 7");
        due("What it is: up to five TRANSACTIONS (0 to 4) at a time",
                each(0, 4, "begin # loose = 0"),
                each(0, 4, "put # # 1# = 0"),
                each(0, 4, "size # = 1; get # # = 1#"),
                each(0, 4, "find # 1# = #"),
                "begin 5 loose = BAD_TX; crash = 5",
                each(0, 4, "begin # strict = 0; save # = 1"),
                each(0, 4, "put # 7 7 = 0; undo # = 0"),
                each(0, 4, "commit # = 0"));
        due("What it is: each sees the table as it was committed when it began, and its own changes",
                "begin 0 loose = 0",
                "begin 4 loose = 0; put 4 0 10 = 0; commit 4 = 1; begin 1 loose = 0",
                "begin 4 loose = 0; put 4 0 20 = 1; commit 4 = 1; begin 2 loose = 0",
                "begin 4 loose = 0; remove 4 0 = 0; commit 4 = 1; begin 3 loose = 0",
                "begin 4 loose = 0; put 4 0 40 = 0",
                "get 0 0 = ABSENT; get 1 0 = 10; get 2 0 = 20; get 3 0 = ABSENT; get 4 0 = 40",
                "put 0 1 1 = 0; put 1 2 2 = 0; put 2 3 3 = 0; put 3 4 4 = 0",
                "size 0 = 1; size 1 = 2; size 2 = 2; size 3 = 1; size 4 = 1");
    }

    private static void atMost512Calls() {
        Check.due("What it is: 512 calls: changes of one transaction, all undone", due(
                "What it is: at most 512 calls: changes of one transaction",
                "begin 0 loose = 0; put 0 0 0 = 0",
                times(253, "put 0 0 # = 1; get 0 0 = #"),
                "undo 0 = 0; get 0 0 = ABSENT; commit 0 = 0; committedSize = 0"), 512);
        Check.due("What it is: 512 calls: changes after a savepoint", due(
                "What it is: at most 512 calls: changes on both sides of a savepoint",
                "begin 0 loose = 0; put 0 7 0 = 0",
                times(253, "put 0 7 # = 1"), "save 0 = 1", times(253, "put 0 7 -# = 1"),
                "undo 0 = 0; get 0 7 = 253; commit 0 = 1"), 512);
        Check.due("What it is: 512 calls: commits", due(
                "What it is: at most 512 calls: commits since a transaction began",
                "begin 0 strict = 0; get 0 7 = ABSENT",
                "begin 1 loose = 0; put 1 7 7 = 0; commit 1 = 1",
                "begin 1 loose = 0; put 1 0 0 = 0; commit 1 = 1",
                times(167, "begin 1 loose = 0; put 1 0 # = 1; commit 1 = 1"),
                "put 0 7 1 = LATE; put 0 6 6 = 0; commit 0 = UNSAFE"), 512);
        Check.due("What it is: 512 calls: begun and ended", due(
                "What it is: at most 512 calls: transactions begun and ended",
                times(51, each(0, 4, "begin # strict = 0; abort # = 0")),
                "crash = 0; committedSize = 0"), 512);
        Check.due("What it is: 512 calls: savepoints", due(
                "What it is: at most 512 calls: savepoints set and gone",
                "begin 0 loose = 0",
                times(85, "save 0 = 1; save 0 = 2; save 0 = 3; undo 0 = 2; undo 0 = 1; undo 0 = 0"),
                "undo 0 = 0"), 512);
    }

    private static void transactionsAndViews() {
        due("Terms: THE COMMITTED TABLE is empty at the start",
                "committedSize = 0", each(0, 7, "committed # = 0"),
                "begin 0 loose = 0; size 0 = 0; find 0 0 = ABSENT", each(0, 7, "get 0 # = ABSENT"));
        due("Terms: An active one has a SNAPSHOT, the committed table when it began",
                "begin 0 loose = 0; begin 1 loose = 0; put 0 0 5 = 0; put 0 1 6 = 0",
                "begin 2 loose = 0; commit 0 = 2",
                "get 1 0 = ABSENT; get 2 0 = ABSENT; size 1 = 0; size 2 = 0",
                "begin 0 loose = 0; remove 0 0 = 0; put 0 1 7 = 1; begin 3 loose = 0; commit 0 = 2",
                "get 3 0 = 5; get 3 1 = 6; size 3 = 2; committed 1 = 7; committedSize = 1",
                "undo 3 = 0; get 3 0 = 5; get 3 1 = 6; undo 1 = 0; size 1 = 0");
        due("Terms: its VIEW is the snapshot with its own changes carried out on it in order",
                "begin 0 loose = 0; put 0 3 1 = 0; put 0 3 2 = 1; get 0 3 = 2",
                "remove 0 3 = 0; get 0 3 = ABSENT; put 0 3 3 = 0; get 0 3 = 3",
                "put 0 3 1 = 1; get 0 3 = 1; size 0 = 1; commit 0 = 1; committed 3 = 1",
                "begin 0 loose = 0; remove 0 3 = 0; put 0 3 9 = 0; remove 0 3 = 0; size 0 = 0",
                "commit 0 = 1; committed 3 = 0; committedSize = 0");
        due("Terms: It has up to three SAVEPOINTS",
                each(0, 4, "begin # loose = 0"),
                each(0, 4, "save # = 1"), each(0, 4, "save # = 2"), each(0, 4, "save # = 3"),
                each(0, 4, "save # = FULL"));
        due("Terms: SAVEPOINTS, each a mark in the order of its changes",
                "begin 0 loose = 0; save 0 = 1; save 0 = 2; put 0 0 1 = 0; save 0 = 3",
                "undo 0 = 2; get 0 0 = 1; undo 0 = 1; get 0 0 = ABSENT",
                "put 0 0 2 = 0; undo 0 = 0; get 0 0 = ABSENT; put 0 0 3 = 0; save 0 = 1",
                "undo 0 = 0; get 0 0 = 3; undo 0 = 0; get 0 0 = ABSENT");
        due("Terms: What older versions of rows are kept CAN'T BE SEEN",
                "begin 0 loose = 0; put 0 0 1 = 0; commit 0 = 1; begin 1 loose = 0",
                "begin 0 loose = 0; put 0 0 2 = 1; commit 0 = 1; begin 2 loose = 0",
                "begin 0 loose = 0; remove 0 0 = 0; commit 0 = 1; begin 3 loose = 0",
                "find 3 1 = ABSENT; find 3 2 = ABSENT; committedSize = 0; committed 0 = 0",
                "size 1 = 1; size 2 = 1; size 3 = 0; find 2 1 = ABSENT; find 1 2 = ABSENT",
                "put 3 0 3 = 0; commit 3 = 1; get 1 0 = 1; get 2 0 = 2; committed 0 = 3");
    }

    private static void held() {
        due("Terms: A key is HELD by an active transaction if that has changes to the key",
                "begin 0 loose = 0; put 0 0 5 = 0; put 0 1 6 = 0; commit 0 = 2",
                "begin 0 loose = 0; begin 1 loose = 0",
                "put 0 0 7 = 1; put 1 0 7 = BUSY; put 0 2 7 = 0; put 1 2 7 = BUSY",
                "remove 0 1 = 0; put 1 1 7 = BUSY; put 1 3 7 = 0; commit 0 = 3; commit 1 = 1");
        due("Terms: HELD by changes to the key that leave it as it was",
                "begin 0 loose = 0; put 0 0 5 = 0; commit 0 = 1",
                "begin 0 loose = 0; begin 1 loose = 0",
                "put 0 0 5 = 1; put 1 0 7 = BUSY; put 0 1 6 = 0; remove 0 1 = 0",
                "put 1 1 7 = BUSY; commit 0 = 2; put 1 0 7 = LATE; put 1 1 7 = LATE");
        due("Terms: HELD by changes (not undone)",
                "begin 0 loose = 0; begin 1 loose = 0; put 0 0 5 = 0; save 0 = 1",
                "put 0 0 6 = 1; put 0 1 6 = 0; undo 0 = 0; put 1 0 7 = BUSY; put 1 1 7 = 0",
                "put 0 1 6 = BUSY; undo 0 = 0; put 1 0 7 = 0; put 0 0 6 = BUSY; abort 0 = 0");
        due("Terms: HELD by an active transaction, so not by one that has ended",
                "begin 0 loose = 0; begin 1 loose = 0; put 0 0 5 = 0; abort 0 = 1; put 1 0 6 = 0",
                "crash = 1; begin 2 loose = 0; put 2 0 7 = 0; commit 2 = 1",
                "begin 3 loose = 0; put 3 0 8 = 1; begin 0 loose = 0; put 0 0 9 = BUSY");
        due("Terms: HELD: a refused change or a get holds nothing",
                "begin 0 loose = 0; put 0 0 5 = 0; begin 1 loose = 0; begin 2 loose = 0",
                "put 1 0 6 = BUSY; remove 1 7 = ABSENT; get 1 6 = ABSENT; put 1 8 6 = BAD_KEY",
                "put 2 7 1 = 0; put 2 6 1 = 0; abort 1 = 0; abort 0 = 1; put 2 0 1 = 0");
    }

    private static void late() {
        due("Terms: LATE if some other transaction that held it has committed since this one began",
                "begin 0 loose = 0; begin 1 loose = 0; put 1 3 5 = 0; begin 2 loose = 0",
                "commit 1 = 1; begin 3 loose = 0",
                "put 0 3 6 = LATE; put 2 3 6 = LATE; put 3 3 6 = 1; put 0 2 6 = 0");
        due("Terms: LATE by changes that leave the key as it was",
                "begin 0 loose = 0; begin 1 loose = 0; put 1 0 5 = 0; remove 1 0 = 0; commit 1 = 1",
                "put 0 0 6 = LATE; get 0 0 = ABSENT; committedSize = 0");
        due("Terms: LATE by some other transaction, not by its own earlier commit",
                "begin 0 loose = 0; put 0 0 5 = 0; commit 0 = 1",
                "begin 0 strict = 0; get 0 0 = 5; put 0 0 6 = 1; commit 0 = 1; committed 0 = 6");
        due("Terms: LATE since this one began, not by a commit before that",
                "begin 0 loose = 0; begin 1 loose = 0; put 1 0 5 = 0; commit 1 = 1",
                "put 0 0 6 = LATE; commit 0 = 0; begin 0 loose = 0; put 0 0 6 = 1",
                "abort 0 = 1; begin 0 loose = 0; remove 0 0 = 0");
        due("Terms: LATE if that held it, not if it had undone its changes",
                "begin 0 loose = 0; begin 1 loose = 0; put 1 0 5 = 0; save 1 = 1; put 1 1 6 = 0",
                "undo 1 = 0; commit 1 = 1; put 0 1 7 = 0; put 0 0 7 = LATE");
        due("Terms: LATE if that has committed, not if it has ended otherwise",
                "begin 0 loose = 0; begin 1 loose = 0; put 1 0 5 = 0; abort 1 = 1; put 0 0 7 = 0",
                "begin 2 strict = 0; get 2 7 = ABSENT; put 2 6 6 = 0",
                "begin 1 loose = 0; put 1 7 7 = 0; commit 1 = 1; commit 2 = UNSAFE",
                "put 0 6 6 = 0; put 0 7 7 = LATE");
        due("Terms: LATE stays when the other begins again, and when this one undoes",
                "begin 0 loose = 0; save 0 = 1; begin 1 loose = 0; put 1 0 5 = 0; commit 1 = 1",
                "begin 1 loose = 0; put 0 0 6 = LATE; abort 1 = 0; put 0 0 6 = LATE",
                "undo 0 = 0; put 0 0 6 = LATE; undo 0 = 0; put 0 0 6 = LATE; vacuum",
                "put 0 0 6 = LATE; begin 0 loose = ACTIVE; put 0 0 6 = LATE");
        due("Terms: LATE for each of the others, each of the keys",
                each(0, 4, "begin # loose = 0"),
                each(0, 7, "put 2 # 5 = 0"), "commit 2 = 8",
                each(0, 7, "put 0 # 6 = LATE"), each(0, 7, "put 1 # 6 = LATE"),
                each(0, 7, "put 3 # 6 = LATE"), each(0, 7, "put 4 # 6 = LATE"));
    }

    private static void orderOfRefusals() {
        String withTx = "put # 0 1 = R; remove # 0 = R; get # 0 = R; save # = R; undo # = R; "
                + "commit # = R; abort # = R; size # = R; find # 5 = R";
        String withBadKey = "put # -1 1 = R; remove # -1 = R; get # -1 = R; put # 8 1 = R; "
                + "remove # 8 = R; get # 8 = R";
        due("Terms: tx not in 0 to 4 is BAD_TX, none active",
                each(BAD_TXS, "begin # loose = BAD_TX; begin # strict = BAD_TX"),
                each(BAD_TXS, withTx.replace("R", "BAD_TX")), "crash = 0");
        due("Terms: tx not in 0 to 4 is BAD_TX, all active",
                each(0, 4, "begin # loose = 0"),
                each(BAD_TXS, "begin # loose = BAD_TX; begin # strict = BAD_TX"),
                each(BAD_TXS, withTx.replace("R", "BAD_TX")), "crash = 5");
        due("Terms: BAD_TX, tested first (before IDLE and BAD_KEY)",
                each(BAD_TXS, withBadKey.replace("R", "BAD_TX")),
                each(0, 4, "begin # loose = 0"),
                each(BAD_TXS, withBadKey.replace("R", "BAD_TX")));
        due("Terms: then IDLE, where it has to be active",
                each(0, 4, withTx.replace("R", "IDLE")), "crash = 0");
        due("Terms: then IDLE, of one beside four active ones",
                each(0, 4, "begin # loose = 0"), "abort 2 = 0",
                each(2, 2, withTx.replace("R", "IDLE")), "crash = 4");
        due("Terms: IDLE, then BAD_KEY", each(0, 4, withBadKey.replace("R", "IDLE")));
        due("Terms: then a key not in 0 to 7 is BAD_KEY",
                "begin 0 loose = 0; begin 4 strict = 0",
                each(0, 7, "put 0 # 5 = 0"),
                each(BAD_KEYS, "put 0 # 1 = BAD_KEY; put 4 # 1 = BAD_KEY"),
                each(BAD_KEYS, "remove 0 # = BAD_KEY; remove 4 # = BAD_KEY"),
                each(BAD_KEYS, "get 0 # = BAD_KEY; get 4 # = BAD_KEY"),
                "size 0 = 8; size 4 = 0; find 0 1 = ABSENT; commit 0 = 8; put 4 0 1 = LATE",
                "commit 4 = 0");
        due("Terms: Refused calls change nothing (each once; ChangesNothingTest has them all)",
                "begin 0 strict = 0; put 0 0 5 = 0; commit 0 = 1",
                "begin 0 strict = 0; begin 1 loose = 0; put 1 1 6 = 0; save 1 = 1; save 1 = 2",
                "save 1 = 3; save 1 = FULL; begin 1 strict = ACTIVE; put 0 1 7 = BUSY",
                "remove 0 7 = ABSENT; put 0 8 7 = BAD_KEY; put 5 0 7 = BAD_TX; put 2 0 7 = IDLE",
                "size 0 = 1; size 1 = 2; undo 1 = 2; committedSize = 1; commit 0 = 0; abort 1 = 1",
                "crash = 0");
        due("Terms: size, find, committed, committedSize change nothing and read nothing",
                "begin 0 strict = 0; put 0 0 5 = 0; commit 0 = 1; begin 0 strict = 0",
                "size 0 = 1; find 0 5 = 0; find 0 6 = ABSENT; committed 0 = 5; committed 1 = 0",
                "committedSize = 1; put 0 7 7 = 0",
                "begin 1 loose = 0; put 1 0 6 = 1; put 1 1 6 = 0; commit 1 = 2",
                "size 0 = 2; find 0 5 = 0; committed 0 = 6; committedSize = 2; commit 0 = 1");
    }

    private static void newObject() {
        due("Promise 1: All transactions are idle",
                each(0, 4, "size # = IDLE"), "crash = 0", each(0, 4, "begin # loose = 0"));
        VersionHeap one = new VersionHeap();
        one.begin(0, true);
        one.put(0, 0, 5);
        VersionHeap other = new VersionHeap();
        Check.due("Promise 1: a second object's size(0)", other.size(0), -3);
        Check.due("Promise 1: a second object's begin(1)", other.begin(1, false), 0);
        Check.due("Promise 1: a second object's put", other.put(1, 0, 6), 0);
        Check.due("Promise 1: a second object's commit", other.commit(1), 1);
        Check.due("Promise 1: the first's committed(0)", one.committed(0), 0);
        Check.due("Promise 1: the first's put", one.put(0, 0, 7), 1);
    }

    private static void begin() {
        due("Promise 2: Begins a transaction, strict",
                "begin 0 strict = 0; get 0 0 = ABSENT; put 0 7 7 = 0",
                "begin 1 loose = 0; put 1 0 5 = 0; commit 1 = 1; commit 0 = UNSAFE");
        due("Promise 2: Begins a transaction, not strict",
                "begin 0 loose = 0; get 0 0 = ABSENT; put 0 7 7 = 0",
                "begin 1 loose = 0; put 1 0 5 = 0; commit 1 = 1; commit 0 = 1");
        due("Promise 2: strict or not anew with each begin",
                "begin 0 strict = 0; abort 0 = 0; begin 0 loose = 0; get 0 0 = ABSENT",
                "put 0 7 7 = 0; begin 1 strict = 0; put 1 0 5 = 0; commit 1 = 1; commit 0 = 1",
                "begin 0 strict = 0; get 0 0 = 5; put 0 7 8 = 1",
                "begin 1 loose = 0; put 1 0 6 = 1; commit 1 = 1; commit 0 = UNSAFE");
        due("Promise 2: BAD_TX", each(BAD_TXS, "begin # loose = BAD_TX"),
                each(BAD_TXS, "begin # strict = BAD_TX"), "crash = 0");
        due("Promise 2: it is active: ACTIVE",
                each(0, 4, "begin # loose = 0; begin # loose = ACTIVE; begin # strict = ACTIVE"),
                "put 0 0 5 = 0; save 0 = 1; begin 0 loose = ACTIVE; commit 0 = 1; begin 0 loose = 0",
                "begin 0 loose = ACTIVE; crash = 5; begin 0 loose = 0; begin 0 strict = ACTIVE");
        due("Promise 2: ACTIVE leaves it strict or not as it was",
                "begin 0 strict = 0; begin 0 loose = ACTIVE; begin 1 loose = 0",
                "begin 1 strict = ACTIVE; get 0 0 = ABSENT; get 1 0 = ABSENT",
                "put 0 6 6 = 0; put 1 7 7 = 0; begin 2 loose = 0; put 2 0 5 = 0; commit 2 = 1",
                "begin 0 loose = ACTIVE; begin 1 strict = ACTIVE; commit 0 = UNSAFE; commit 1 = 1");
        due("Promise 2: Else answers 0, after each way to end",
                "begin 0 strict = 0; commit 0 = 0; begin 0 strict = 0; abort 0 = 0",
                "begin 0 strict = 0; crash = 1; begin 0 strict = 0; get 0 0 = ABSENT; put 0 1 1 = 0",
                "begin 1 loose = 0; put 1 0 5 = 0; commit 1 = 1; commit 0 = UNSAFE",
                "begin 0 strict = 0; size 0 = 1; save 0 = 1; get 0 0 = 5; put 0 0 6 = 1",
                "commit 0 = 1");
    }

    private static void put() {
        due("Promise 3: BAD_TX", each(BAD_TXS, "put # 0 1 = BAD_TX"));
        due("Promise 3: IDLE", each(0, 4, "put # 0 1 = IDLE"), "committedSize = 0");
        due("Promise 3: BAD_KEY", "begin 0 loose = 0", each(BAD_KEYS, "put 0 # 1 = BAD_KEY"),
                "size 0 = 0; commit 0 = 0; committedSize = 0");
        for (int holder = 0; holder < 5; holder++) {
            String ownPut = "put " + holder + " 7 6 = ";
            due("Promise 3: another active transaction holds the key: BUSY",
                    each(0, 4, "begin # loose = 0"), ownPut + "0",
                    each(0, 4, "put # 7 6 = BUSY").replace(ownPut + "BUSY", ownPut + "1"),
                    each(0, 4, "put # # 6 = 0"));
        }
        due("Promise 3: it is late: LATE",
                "begin 0 loose = 0; begin 1 loose = 0; put 1 0 5 = 0; put 1 7 5 = 0; commit 1 = 2",
                "put 0 0 6 = LATE; put 0 7 6 = LATE; put 0 0 5 = LATE; size 0 = 0; commit 0 = 0");
        due("Promise 3: BUSY; LATE, in this order",
                "begin 0 loose = 0; begin 1 loose = 0; put 1 0 5 = 0; commit 1 = 1",
                "begin 1 loose = 0; put 1 0 6 = 1; put 0 0 7 = BUSY; undo 1 = 0; put 0 0 7 = LATE");
        due("Promise 3: Else answers 1 if the view had the key before, 0 if not",
                "begin 0 loose = 0; put 0 0 5 = 0; put 0 0 5 = 1; commit 0 = 1",
                "begin 0 loose = 0; begin 1 loose = 0; begin 2 loose = 0",
                "remove 0 0 = 0; put 0 0 6 = 0; put 0 0 7 = 1; save 0 = 1; put 0 1 1 = 0",
                "undo 0 = 0; put 0 1 1 = 0; undo 0 = 0; put 1 0 8 = 1; commit 1 = 1",
                "begin 1 loose = 0; remove 1 0 = 0; commit 1 = 1; begin 1 loose = 0; put 1 0 9 = 0");
        due("Promise 3: the view had the key, whatever the committed table has",
                "begin 0 loose = 0; put 0 3 0 = 0; put 0 3 1 = 1; committedSize = 0",
                "put 0 4 ABSENT = 0; put 0 4 0 = 1; put 0 4 1 = 1");
    }

    private static void remove() {
        due("Promise 4: BAD_TX", each(BAD_TXS, "remove # 0 = BAD_TX"));
        due("Promise 4: IDLE", each(0, 4, "remove # 0 = IDLE"));
        due("Promise 4: BAD_KEY", "begin 0 loose = 0", each(0, 7, "put 0 # 5 = 0"),
                each(BAD_KEYS, "remove 0 # = BAD_KEY"), "size 0 = 8; commit 0 = 8");
        due("Promise 4: the view doesn't have it: ABSENT",
                "begin 0 loose = 0", each(0, 7, "remove 0 # = ABSENT"),
                "put 0 0 5 = 0; remove 0 0 = 0; remove 0 0 = ABSENT; commit 0 = 1",
                "begin 0 loose = 0; remove 0 0 = ABSENT; commit 0 = 0");
        due("Promise 4: ABSENT; BUSY, in this order",
                "begin 0 loose = 0; begin 1 loose = 0; put 1 0 5 = 0; remove 0 0 = ABSENT");
        due("Promise 4: ABSENT; LATE, in this order",
                "begin 0 loose = 0; begin 1 loose = 0; put 1 0 5 = 0; commit 1 = 1",
                "remove 0 0 = ABSENT; put 0 0 6 = LATE");
        due("Promise 4: ABSENT; BUSY; LATE, ABSENT before both",
                "begin 0 loose = 0; begin 1 loose = 0; put 1 0 5 = 0; commit 1 = 1",
                "begin 1 loose = 0; put 1 0 6 = 1; remove 0 0 = ABSENT; put 0 0 6 = BUSY");
        due("Promise 4: BUSY",
                "begin 0 loose = 0; put 0 0 5 = 0; put 0 7 5 = 0; commit 0 = 2",
                each(0, 4, "begin # loose = 0"), "put 3 0 6 = 1; remove 3 7 = 0",
                each(new int[] {0, 1, 2, 4}, "remove # 0 = BUSY; remove # 7 = BUSY"),
                "size 0 = 2; abort 0 = 0; abort 3 = 2; remove 1 0 = 0; remove 1 7 = 0");
        due("Promise 4: LATE",
                "begin 0 loose = 0; put 0 0 5 = 0; put 0 7 5 = 0; commit 0 = 2",
                "begin 0 loose = 0; begin 1 loose = 0; put 1 0 6 = 1; remove 1 7 = 0; commit 1 = 2",
                "remove 0 0 = LATE; remove 0 7 = LATE; size 0 = 2; commit 0 = 0; committed 0 = 6");
        due("Promise 4: BUSY; LATE, in this order",
                "begin 0 loose = 0; put 0 0 5 = 0; commit 0 = 1; begin 0 loose = 0",
                "begin 1 loose = 0; put 1 0 6 = 1; commit 1 = 1; begin 1 loose = 0; remove 1 0 = 0",
                "remove 0 0 = BUSY; abort 1 = 1; remove 0 0 = LATE");
        due("Promise 4: Changes a key to absent. Else answers 0",
                "begin 0 loose = 0; put 0 0 -7 = 0; put 0 7 0 = 0; remove 0 0 = 0; remove 0 7 = 0",
                "get 0 0 = ABSENT; get 0 7 = ABSENT; size 0 = 0; commit 0 = 2; committedSize = 0");
    }

    private static void get() {
        due("Promise 5: BAD_TX", each(BAD_TXS, "get # 0 = BAD_TX"));
        due("Promise 5: IDLE", each(0, 4, "get # 0 = IDLE"),
                "begin 0 loose = 0; put 0 0 5 = 0; commit 0 = 1; get 0 0 = IDLE");
        due("Promise 5: BAD_KEY", "begin 0 loose = 0", each(0, 7, "put 0 # 5 = 0"),
                each(BAD_KEYS, "get 0 # = BAD_KEY"));
        due("Promise 5: ABSENT", "begin 0 loose = 0", each(0, 7, "get 0 # = ABSENT"),
                "put 0 3 5 = 0; remove 0 3 = 0; get 0 3 = ABSENT; put 0 3 5 = 0; undo 0 = 0",
                "get 0 3 = ABSENT");
        due("Promise 5: get is refused neither as BUSY nor as LATE",
                "begin 0 loose = 0; put 0 0 5 = 0; commit 0 = 1; begin 0 loose = 0",
                "begin 1 loose = 0; put 1 0 6 = 1; get 0 0 = 5; commit 1 = 1; get 0 0 = 5",
                "begin 1 loose = 0; remove 1 0 = 0; get 0 0 = 5; commit 1 = 1; get 0 0 = 5");
        due("Promise 5: Values may equal these",
                "begin 0 loose = 0", each(0, 7, "put 0 # -# = 0"),
                "put 0 0 -9 = 1; put 0 1 -8 = 1", "get 0 0 = -9; get 0 1 = -8",
                each(2, 7, "get 0 # = -#"), "put 0 0 -1 = 1; get 0 0 = -1; size 0 = 8",
                "put 0 0 -7 = 1; remove 0 0 = 0; put 0 0 -7 = 0; get 0 0 = -7; remove 0 0 = 0",
                "get 0 0 = ABSENT; remove 0 0 = ABSENT; remove 0 7 = 0; remove 0 7 = ABSENT",
                "commit 0 = 8; committed 1 = -8; committed 6 = -6; committedSize = 6");
        for (int value = -9; value < 0; value++) {
            String run = "begin 0 strict = 0; put 0 3 V = 0; commit 0 = 1; begin 0 strict = 0; "
                    + "get 0 3 = V; put 0 0 1 = 0; begin 1 loose = 0; put 1 3 1 = 1; "
                    + "commit 1 = 1; commit 0 = UNSAFE";
            due("Promise 5: Values may equal these, and the get has READ the key",
                    run.replace("V", "" + value));
        }
    }

    /** A strict transaction's commit tells what it has read: UNSAFE if the key is late. */
    private static void getReads() {
        String othersCommitAll = "begin 1 loose = 0; " + each(1, 7, "put 1 # 5 = 0")
                + "; commit 1 = 7";
        due("Promise 5: READ the keys of all its get calls not refused, ABSENT ones too",
                "begin 0 strict = 0; put 0 0 5 = 0; get 0 7 = ABSENT", othersCommitAll,
                "commit 0 = UNSAFE");
        due("Promise 5: READ by a get after the key became late",
                "begin 0 strict = 0; put 0 0 5 = 0", othersCommitAll, "get 0 7 = ABSENT",
                "commit 0 = UNSAFE");
        due("Promise 5: READ by a get of its own change",
                "begin 0 strict = 0; put 0 0 5 = 0; save 0 = 1; put 0 7 5 = 0; get 0 7 = 5",
                "undo 0 = 0", othersCommitAll, "commit 0 = UNSAFE");
        for (int key = 1; key < 8; key++) {
            String otherCommits = each(key, key, "begin 1 loose = 0; put 1 # 5 = 0; commit 1 = 1");
            due("Promise 5: READ the key",
                    "begin 0 strict = 0; put 0 0 5 = 0", each(key, key, "get 0 # = ABSENT"),
                    otherCommits, "commit 0 = UNSAFE");
            due("Promise 5: READ the keys of all its get calls",
                    "begin 0 strict = 0; put 0 0 5 = 0", each(1, 7, "get 0 # = ABSENT"),
                    "get 0 0 = 5", otherCommits, "commit 0 = UNSAFE");
            due("Promise 5: READ the keys of its get calls, and no other",
                    "begin 0 strict = 0; put 0 0 5 = 0",
                    each(1, 7, "get 0 # = ABSENT").replace("get 0 " + key + " = ABSENT",
                            "get 0 0 = 5"),
                    otherCommits, "commit 0 = 1");
        }
        due("Promise 5: refused as BAD_KEY it has READ nothing",
                "begin 0 strict = 0; put 0 0 5 = 0", each(BAD_KEYS, "get 0 # = BAD_KEY"),
                othersCommitAll, "commit 0 = 1");
        due("Promise 5: refused as BAD_TX nobody has READ anything",
                "begin 0 strict = 0; begin 4 strict = 0; put 0 0 5 = 0", each(BAD_TXS, "get # 7 = BAD_TX"),
                othersCommitAll, "commit 0 = 1; commit 4 = 0");
        due("Promise 5: refused as IDLE it has READ nothing when it begins",
                each(1, 7, "get 0 # = IDLE"), "begin 0 strict = 0; put 0 0 5 = 0", othersCommitAll,
                "commit 0 = 1");
        due("Promise 5: what it READ before it began anew is not read",
                "begin 0 strict = 0", each(1, 7, "get 0 # = ABSENT"), "commit 0 = 0",
                "begin 0 strict = 0; put 0 0 5 = 0", othersCommitAll, "commit 0 = 1");
        due("Promise 5: put and remove have READ nothing",
                "begin 0 strict = 0; put 0 0 5 = 0; save 0 = 1; remove 0 7 = ABSENT",
                "put 0 6 5 = 0; remove 0 6 = 0; undo 0 = 0", othersCommitAll,
                "put 0 5 5 = LATE; remove 0 5 = ABSENT; commit 0 = 1");
    }

    private static void save() {
        due("Promise 6: BAD_TX", each(BAD_TXS, "save # = BAD_TX"));
        due("Promise 6: IDLE", each(0, 4, "save # = IDLE"), "begin 0 loose = 0; save 0 = 1");
        due("Promise 6: it has three: FULL",
                "begin 0 loose = 0; save 0 = 1; save 0 = 2; save 0 = 3; save 0 = FULL",
                "save 0 = FULL; undo 0 = 2; save 0 = 3; save 0 = FULL");
        due("Promise 6: FULL sets no savepoint",
                "begin 0 loose = 0; put 0 0 1 = 0; save 0 = 1; put 0 0 2 = 1; save 0 = 2",
                "put 0 0 3 = 1; save 0 = 3; put 0 0 4 = 1; save 0 = FULL; get 0 0 = 4",
                "put 0 0 5 = 1; save 0 = FULL; undo 0 = 2; get 0 0 = 3; undo 0 = 1; get 0 0 = 2",
                "undo 0 = 0; get 0 0 = 1; undo 0 = 0; get 0 0 = ABSENT");
        due("Promise 6: Else answers how many it has, each for itself",
                "begin 0 loose = 0; begin 4 loose = 0; save 0 = 1; save 4 = 1; save 4 = 2; save 0 = 2",
                "save 0 = 3; save 0 = FULL; save 4 = 3; undo 0 = 2; save 4 = FULL");
        due("Promise 6: a new transaction has none",
                "begin 0 loose = 0; save 0 = 1; save 0 = 2; save 0 = 3; commit 0 = 0",
                "begin 0 loose = 0; save 0 = 1; save 0 = 2; abort 0 = 0; begin 0 loose = 0",
                "save 0 = 1; crash = 1; begin 0 loose = 0; save 0 = 1; undo 0 = 0; undo 0 = 0");
    }

    private static void undo() {
        due("Promise 7: BAD_TX", each(BAD_TXS, "undo # = BAD_TX"));
        due("Promise 7: IDLE", each(0, 4, "undo # = IDLE"),
                "begin 0 loose = 0; put 0 0 5 = 0; commit 0 = 1; undo 0 = IDLE; committed 0 = 5");
        due("Promise 7: Undoes all changes since the last savepoint, which is gone then",
                "begin 0 loose = 0; put 0 0 1 = 0; save 0 = 1; put 0 0 2 = 1; put 0 7 2 = 0",
                "save 0 = 2; remove 0 0 = 0; remove 0 7 = 0; put 0 6 3 = 0",
                "undo 0 = 1; get 0 0 = 2; get 0 7 = 2; get 0 6 = ABSENT; put 0 0 4 = 1",
                "undo 0 = 0; get 0 0 = 1; get 0 7 = ABSENT; put 0 0 5 = 1",
                "undo 0 = 0; get 0 0 = ABSENT; size 0 = 0");
        due("Promise 7: Undoes all changes since a savepoint with none after it",
                "begin 0 loose = 0; put 0 0 1 = 0; save 0 = 1; undo 0 = 0; get 0 0 = 1",
                "save 0 = 1; save 0 = 2; save 0 = 3; undo 0 = 2; undo 0 = 1; undo 0 = 0",
                "get 0 0 = 1; commit 0 = 1; committed 0 = 1");
        due("Promise 7: without savepoints, all its changes",
                "begin 0 loose = 0; put 0 0 1 = 0; put 0 1 2 = 0; commit 0 = 2",
                "begin 0 loose = 0; remove 0 0 = 0; put 0 1 3 = 1; put 0 7 4 = 0; undo 0 = 0",
                "get 0 0 = 1; get 0 1 = 2; get 0 7 = ABSENT; size 0 = 2; commit 0 = 0",
                "committedSize = 2; committed 1 = 2");
        due("Promise 7: without savepoints and without changes",
                "begin 0 loose = 0; undo 0 = 0; undo 0 = 0; size 0 = 0; begin 0 loose = ACTIVE",
                "save 0 = 1");
        due("Promise 7: all changes back to the snapshot, not to the committed table",
                "begin 0 loose = 0; put 0 0 1 = 0; commit 0 = 1; begin 0 loose = 0; put 0 7 7 = 0",
                "begin 1 loose = 0; put 1 0 2 = 1; put 1 1 2 = 0; commit 1 = 2; undo 0 = 0",
                "get 0 0 = 1; get 0 1 = ABSENT; get 0 7 = ABSENT; size 0 = 1");
        due("Promise 7: the changes of others stay",
                "begin 0 loose = 0; begin 1 loose = 0; put 0 0 1 = 0; put 1 1 2 = 0; save 1 = 1",
                "undo 0 = 0; get 1 1 = 2; undo 1 = 0; get 1 1 = 2; commit 1 = 1; committed 1 = 2");
        due("Promise 7: What it has read stays read",
                "begin 0 strict = 0; save 0 = 1; get 0 0 = ABSENT; put 0 1 1 = 0; undo 0 = 0",
                "undo 0 = 0; put 0 2 2 = 0; begin 1 loose = 0; put 1 0 5 = 0; commit 1 = 1",
                "commit 0 = UNSAFE");
        due("Promise 7: Else answers how many savepoints are left",
                "begin 0 loose = 0; undo 0 = 0; save 0 = 1; undo 0 = 0; save 0 = 1; save 0 = 2",
                "undo 0 = 1; save 0 = 2; save 0 = 3; undo 0 = 2; undo 0 = 1; undo 0 = 0; undo 0 = 0");
    }

    private static void commit() {
        due("Promise 8: BAD_TX", "begin 0 loose = 0; put 0 0 5 = 0",
                each(BAD_TXS, "commit # = BAD_TX"), "committedSize = 0; commit 0 = 1");
        due("Promise 8: IDLE", each(0, 4, "commit # = IDLE"),
                "begin 0 loose = 0; put 0 0 5 = 0; abort 0 = 1; commit 0 = IDLE; committedSize = 0");
        due("Promise 8: the committed table becomes as the transaction's changes make it",
                "begin 0 loose = 0; put 0 0 1 = 0; put 0 0 2 = 1; put 0 7 3 = 0; put 0 4 4 = 0",
                "remove 0 4 = 0; commit 0 = 3; committed 0 = 2; committed 7 = 3; committed 4 = 0",
                "committedSize = 2; begin 0 loose = 0; remove 0 0 = 0; commit 0 = 1",
                "committed 0 = 0; committedSize = 1");
        due("Promise 8: key by key for those that it holds",
                "begin 4 loose = 0", each(0, 7, "put 4 # 1 = 0"), "commit 4 = 8",
                "begin 0 loose = 0; begin 1 loose = 0; begin 2 loose = 0; put 0 0 2 = 1",
                "put 1 7 3 = 1; remove 1 6 = 0; put 2 3 4 = 1; put 2 5 4 = 1; undo 2 = 0",
                "put 2 4 5 = 1; commit 1 = 2; commit 2 = 1; commit 0 = 1",
                "committed 0 = 2; committed 1 = 1; committed 2 = 1; committed 3 = 1; committed 4 = 5",
                "committed 5 = 1; committed 6 = 0; committed 7 = 3; committedSize = 7");
        due("Promise 8: changes that were undone are not committed",
                "begin 0 loose = 0; put 0 0 1 = 0; save 0 = 1; put 0 0 2 = 1; put 0 1 2 = 0",
                "undo 0 = 0; commit 0 = 1; committed 0 = 1; committed 1 = 0; committedSize = 1");
        due("Promise 8: it is idle then",
                "begin 0 loose = 0; commit 0 = 0; commit 0 = IDLE; size 0 = IDLE",
                "begin 0 strict = 0; put 0 0 5 = 0; commit 0 = 1; commit 0 = IDLE; size 0 = IDLE",
                "crash = 0");
        due("Promise 8: Else answers how many keys it held",
                "begin 0 loose = 0; commit 0 = 0",
                "begin 0 loose = 0; put 0 0 1 = 0; put 0 0 2 = 1; remove 0 0 = 0; commit 0 = 1",
                "begin 0 loose = 0; put 0 0 1 = 0; save 0 = 1; put 0 1 1 = 0; undo 0 = 0",
                "remove 0 7 = ABSENT; get 0 6 = ABSENT; commit 0 = 1",
                "begin 0 strict = 0; put 0 0 1 = 1", each(1, 7, "put 0 # # = 0"), "commit 0 = 8");
    }

    private static void commitUnsafe() {
        String sentence = "Promise 8: A strict transaction that holds some key and has read a key "
                + "that is late for it: UNSAFE";
        due(sentence,
                "begin 0 strict = 0; get 0 0 = ABSENT; put 0 7 7 = 0",
                "begin 1 loose = 0; put 1 0 5 = 0; commit 1 = 1; commit 0 = UNSAFE");
        due(sentence + ", by a removed key, by a remove of its own",
                "begin 0 loose = 0; put 0 0 5 = 0; put 0 1 5 = 0; commit 0 = 2",
                "begin 0 strict = 0; get 0 0 = 5; remove 0 1 = 0",
                "begin 1 loose = 0; remove 1 0 = 0; commit 1 = 1; commit 0 = UNSAFE");
        due(sentence + ", the second of two that read what the other changes",
                "begin 0 strict = 0; begin 1 strict = 0; get 0 0 = ABSENT; get 0 1 = ABSENT",
                "get 1 0 = ABSENT; get 1 1 = ABSENT; put 0 0 1 = 0; put 1 1 1 = 0",
                "commit 1 = 1; commit 0 = UNSAFE; committed 0 = 0; committed 1 = 1");
        due(sentence + ", one late key among many read",
                "begin 0 strict = 0; put 0 0 1 = 0; get 0 0 = 1", each(1, 7, "get 0 # = ABSENT"),
                "begin 1 loose = 0; put 1 7 7 = 0; commit 1 = 1; commit 0 = UNSAFE");
        due("Promise 8: UNSAFE: all its changes are undone",
                "begin 0 loose = 0; put 0 0 5 = 0; put 0 1 6 = 0; commit 0 = 2",
                "begin 0 strict = 0; begin 2 strict = 0; get 0 7 = ABSENT; get 2 0 = 5; get 2 1 = 6",
                "put 0 0 50 = 1; save 0 = 1; remove 0 1 = 0; put 0 2 20 = 0",
                "begin 1 loose = 0; put 1 7 7 = 0; commit 1 = 1; commit 0 = UNSAFE",
                "committed 0 = 5; committed 1 = 6; committed 2 = 0; committedSize = 3",
                "put 2 0 8 = 1; put 2 1 8 = 1; put 2 2 8 = 0; commit 2 = 3");
        due("Promise 8: UNSAFE: and it is idle",
                "begin 0 strict = 0; get 0 7 = ABSENT; put 0 0 5 = 0; save 0 = 1",
                "begin 1 loose = 0; put 1 7 7 = 0; commit 1 = 1; commit 0 = UNSAFE",
                "commit 0 = IDLE; size 0 = IDLE; undo 0 = IDLE; crash = 0; begin 0 strict = 0",
                "save 0 = 1; size 0 = 1; put 0 0 5 = 0; put 0 7 8 = 1; commit 0 = 2");
    }

    private static void commitNotUnsafe() {
        due("Promise 8: not UNSAFE: not strict",
                "begin 0 loose = 0; get 0 0 = ABSENT; put 0 7 7 = 0",
                "begin 1 strict = 0; put 1 0 5 = 0; commit 1 = 1; commit 0 = 1; committed 7 = 7");
        due("Promise 8: not UNSAFE: holds no key",
                "begin 0 strict = 0; get 0 0 = ABSENT",
                "begin 1 loose = 0; put 1 0 5 = 0; commit 1 = 1; commit 0 = 0",
                "begin 0 strict = 0; get 0 0 = 5; put 0 7 7 = 0",
                "begin 1 loose = 0; put 1 0 6 = 1; commit 1 = 1; undo 0 = 0; commit 0 = 0");
        due("Promise 8: not UNSAFE: has read no key that is late",
                "begin 0 strict = 0; get 0 1 = ABSENT; put 0 7 7 = 0; get 0 7 = 7",
                "begin 1 loose = 0; put 1 0 5 = 0; commit 1 = 1; commit 0 = 1");
        due("Promise 8: not UNSAFE: another has read the late key",
                "begin 0 strict = 0; begin 2 strict = 0; get 2 0 = ABSENT; put 0 7 7 = 0",
                "begin 1 loose = 0; put 1 0 5 = 0; commit 1 = 1; commit 0 = 1; put 2 6 6 = 0",
                "commit 2 = UNSAFE");
        due("Promise 8: not UNSAFE: the key read is held by another, but not late",
                "begin 0 strict = 0; get 0 0 = ABSENT; put 0 7 7 = 0",
                "begin 1 loose = 0; put 1 0 5 = 0; commit 0 = 1; commit 1 = 1");
        due("Promise 8: not UNSAFE: the key read was late for an earlier transaction",
                "begin 0 strict = 0; begin 1 loose = 0; put 1 0 5 = 0; commit 1 = 1; abort 0 = 0",
                "begin 0 strict = 0; get 0 0 = 5; put 0 7 7 = 0; commit 0 = 1");
        due("Promise 8: not UNSAFE: the key read was changed, but not committed",
                "begin 0 strict = 0; get 0 0 = ABSENT; get 0 1 = ABSENT; put 0 7 7 = 0",
                "begin 1 loose = 0; put 1 0 5 = 0; abort 1 = 1",
                "begin 1 loose = 0; put 1 1 5 = 0; undo 1 = 0; commit 1 = 0; commit 0 = 1");
    }

    private static void abort() {
        due("Promise 9: BAD_TX", "begin 0 loose = 0", each(BAD_TXS, "abort # = BAD_TX"),
                "size 0 = 0");
        due("Promise 9: IDLE", each(0, 4, "abort # = IDLE"),
                "begin 0 loose = 0; put 0 0 5 = 0; commit 0 = 1; abort 0 = IDLE; committed 0 = 5");
        due("Promise 9: Undoes all changes of a transaction",
                "begin 0 loose = 0; put 0 0 5 = 0; put 0 1 6 = 0; commit 0 = 2",
                "begin 0 loose = 0; begin 1 strict = 0; get 1 0 = 5; put 0 0 7 = 1; save 0 = 1",
                "remove 0 1 = 0; put 0 7 8 = 0; abort 0 = 3; committed 0 = 5; committed 1 = 6",
                "committed 7 = 0; committedSize = 2; put 1 0 9 = 1; put 1 1 9 = 1; put 1 7 9 = 0",
                "commit 1 = 3");
        due("Promise 9: of a transaction, and of no other",
                "begin 0 loose = 0; begin 1 loose = 0; put 0 0 5 = 0; put 1 1 6 = 0; save 1 = 1",
                "abort 0 = 1; size 1 = 1; get 1 1 = 6; undo 1 = 0; commit 1 = 1");
        due("Promise 9: which is idle then",
                "begin 0 loose = 0; abort 0 = 0; abort 0 = IDLE; size 0 = IDLE; crash = 0",
                "begin 0 loose = 0; put 0 0 5 = 0; save 0 = 1; abort 0 = 1; undo 0 = IDLE",
                "begin 0 loose = 0; size 0 = 0; save 0 = 1");
        due("Promise 9: Else answers how many keys it held",
                "begin 0 loose = 0; abort 0 = 0; begin 0 loose = 0; put 0 0 1 = 0; put 0 0 2 = 1",
                "remove 0 0 = 0; abort 0 = 1; begin 0 loose = 0; put 0 0 1 = 0; save 0 = 1",
                "put 0 1 1 = 0; undo 0 = 0; abort 0 = 1; begin 0 loose = 0",
                each(0, 7, "put 0 # 5 = 0"), "abort 0 = 8");
        due("Promise 9: never UNSAFE",
                "begin 0 strict = 0; get 0 0 = ABSENT; put 0 7 7 = 0; put 0 6 6 = 0",
                "begin 1 loose = 0; put 1 0 5 = 0; commit 1 = 1; abort 0 = 2");
    }

    private static void crash() {
        for (int active = 0; active <= 5; active++) {
            String begins = active == 0 ? "vacuum" : each(0, active - 1, "begin # loose = 0");
            String begins2 = active == 0 ? "vacuum" : each(5 - active, 4, "begin # strict = 0");
            due("Promise 10: Answers how many those were",
                    begins, "crash = " + active, "crash = 0", each(0, 4, "size # = IDLE"),
                    begins2, "crash = " + active, "crash = 0", each(0, 4, "commit # = IDLE"));
        }
        due("Promise 10: all active transactions are aborted",
                "begin 0 loose = 0; put 0 0 5 = 0; put 0 1 6 = 0; commit 0 = 2",
                each(0, 4, "begin # strict = 0"),
                each(2, 4, "put # # 7 = 0"), "put 0 0 7 = 1; remove 1 1 = 0",
                each(0, 4, "save # = 1; save # = 2; save # = 3"), "crash = 5; committedSize = 2",
                "committed 0 = 5; committed 1 = 6", each(2, 4, "committed # = 0"),
                each(0, 4, "begin # strict = 0"),
                each(0, 4, "size # = 2; save # = 1"),
                "put 4 0 8 = 1; put 3 1 8 = 1; put 2 4 8 = 0; put 1 3 8 = 0; put 0 2 8 = 0",
                each(0, 4, "commit # = 1"));
        due("Promise 10: an aborted one makes nothing late and has read nothing",
                "begin 0 strict = 0; get 0 0 = ABSENT; put 0 7 7 = 0; crash = 1",
                "begin 0 strict = 0; put 0 7 7 = 0; begin 1 loose = 0; put 1 0 5 = 0; commit 1 = 1",
                "commit 0 = 1");
        due("Promise 10: The system starts again with what was committed",
                "begin 0 loose = 0", each(0, 7, "put 0 # 1# = 0"), "commit 0 = 8; crash = 0",
                each(0, 7, "committed # = 1#"), "committedSize = 8; begin 3 loose = 0; size 3 = 8",
                "get 3 7 = 17; crash = 1; committedSize = 8");
    }

    private static void vacuum() {
        due("Promise 11: Changes nothing that any call answers: an object without transactions",
                "vacuum; vacuum; committedSize = 0; crash = 0; begin 0 loose = 0",
                each(0, 7, "put 0 # 1# = 0"), "commit 0 = 8; vacuum; vacuum; committedSize = 8",
                each(0, 7, "committed # = 1#"), each(0, 4, "size # = IDLE"), "crash = 0");
        due("Promise 11: Changes nothing that any call answers: snapshots older than the table",
                "begin 0 loose = 0; put 0 0 1 = 0; put 0 1 1 = 0; commit 0 = 2; begin 1 loose = 0",
                "begin 2 loose = 0; put 2 7 7 = 0; save 2 = 1; put 2 6 6 = 0",
                "begin 0 loose = 0; remove 0 0 = 0; put 0 1 2 = 1; put 0 2 2 = 0; commit 0 = 3",
                "vacuum; size 1 = 2; get 1 0 = 1; get 1 1 = 1; get 1 2 = ABSENT",
                "undo 2 = 0; vacuum; size 2 = 3; undo 2 = 0; vacuum; size 2 = 2; get 2 0 = 1",
                "get 2 1 = 1; get 2 2 = ABSENT; put 2 1 3 = LATE; undo 1 = 0; get 1 1 = 1");
        due("Promise 11: Changes nothing that any call answers: snapshots, savepoints, held keys",
                "vacuum; vacuum; committedSize = 0; crash = 0; begin 0 loose = 0; put 0 0 1 = 0",
                "put 0 1 1 = 0; commit 0 = 2; begin 1 strict = 0; vacuum; get 1 1 = 1",
                "put 1 7 7 = 0; vacuum; save 1 = 1; put 1 7 8 = 1",
                "begin 0 loose = 0; remove 0 0 = 0; put 0 1 2 = 1; commit 0 = 2; vacuum",
                "get 1 0 = 1; get 1 1 = 1; size 1 = 3; put 1 0 3 = LATE; begin 2 loose = 0",
                "size 2 = 1; vacuum; put 2 7 9 = BUSY; undo 1 = 0; vacuum; get 1 7 = 7",
                "save 1 = 1; save 1 = 2; save 1 = 3; vacuum; save 1 = FULL; begin 1 loose = ACTIVE",
                "vacuum; commit 1 = UNSAFE; vacuum; size 1 = IDLE; committed 1 = 2; committedSize = 1",
                "vacuum; crash = 1");
    }

    private static void size() {
        due("Promise 12: BAD_TX", each(BAD_TXS, "size # = BAD_TX"));
        due("Promise 12: IDLE", each(0, 4, "size # = IDLE"),
                "begin 2 loose = 0; size 2 = 0; size 1 = IDLE; commit 2 = 0; size 2 = IDLE");
        due("Promise 12: How many keys the transaction's view has, from none to eight",
                "begin 0 loose = 0; begin 1 loose = 0; size 0 = 0",
                "put 0 7 0 = 0; size 0 = 1; put 0 0 0 = 0; size 0 = 2; put 0 0 1 = 1; size 0 = 2",
                each(1, 6, "put 0 # 0 = 0"), "size 0 = 8; size 1 = 0; commit 0 = 8; size 1 = 0",
                "begin 2 loose = 0; size 2 = 8; remove 2 7 = 0; size 2 = 7; save 2 = 1",
                each(0, 6, "remove 2 # = 0"), "size 2 = 0; undo 2 = 0; size 2 = 7");
    }

    private static void find() {
        due("Promise 13: BAD_TX", each(BAD_TXS, "find # 0 = BAD_TX"));
        due("Promise 13: IDLE", each(0, 4, "find # 0 = IDLE"),
                "begin 0 loose = 0; put 0 0 5 = 0; commit 0 = 1; find 0 5 = IDLE");
        due("Promise 13: The smallest key with this value",
                "begin 0 loose = 0",
                each(new int[] {7, 6, 5, 4, 3, 2, 1, 0}, "put 0 # 5 = 0; find 0 5 = #"),
                each(0, 6, "remove 0 # = 0; get 0 # = ABSENT"), "find 0 5 = 7; put 0 3 5 = 0",
                "find 0 5 = 3; put 0 3 6 = 1; find 0 5 = 7; find 0 6 = 3");
        due("Promise 13: with this value in the transaction's view",
                "begin 0 loose = 0; put 0 3 5 = 0; commit 0 = 1; begin 0 loose = 0",
                "begin 1 loose = 0; put 0 1 5 = 0; put 0 3 6 = 1; find 0 5 = 1; find 1 5 = 3",
                "find 1 6 = ABSENT; commit 0 = 2; find 1 5 = 3; begin 2 loose = 0; find 2 5 = 1",
                "find 2 6 = 3; undo 1 = 0; find 1 5 = 3");
        due("Promise 13: ABSENT if there is none",
                "begin 0 loose = 0; find 0 0 = ABSENT; find 0 ABSENT = ABSENT; find 0 MIN = ABSENT",
                "put 0 0 1 = 0; find 0 0 = ABSENT; remove 0 0 = 0; find 0 1 = ABSENT",
                "find 0 0 = ABSENT; put 0 0 2 = 0; find 0 1 = ABSENT; undo 0 = 0; find 0 2 = ABSENT");
        due("Promise 13: any int may be this value",
                "begin 0 loose = 0; put 0 7 0 = 0; put 0 6 ABSENT = 0; put 0 5 MIN = 0",
                "put 0 4 MAX = 0; put 0 3 -1 = 0; find 0 0 = 7; find 0 ABSENT = 6; find 0 MIN = 5",
                "find 0 MAX = 4; find 0 -1 = 3; find 0 255 = ABSENT; find 0 65535 = ABSENT");
    }

    private static void committed() {
        due("Promise 14: 0 if it is absent there",
                each(0, 7, "committed # = 0"), "begin 0 loose = 0; put 0 0 5 = 0; put 0 7 6 = 0",
                "committed 0 = 0; committed 7 = 0; commit 0 = 2; committed 0 = 5; committed 7 = 6",
                "committed 1 = 0; committed 6 = 0; begin 0 loose = 0; remove 0 0 = 0; remove 0 7 = 0",
                "committed 0 = 5; committed 7 = 6; commit 0 = 2; committed 0 = 0; committed 7 = 0");
        due("Promise 14: 0 if key not in 0 to 7",
                each(BAD_KEYS, "committed # = 0"), "begin 0 loose = 0",
                each(0, 7, "put 0 # 5 = 0"), each(BAD_KEYS, "committed # = 0"), "commit 0 = 8",
                each(BAD_KEYS, "committed # = 0"), each(0, 7, "committed # = 5"));
        due("Promise 14: The key's value, any int",
                "begin 0 loose = 0; put 0 0 0 = 0; put 0 1 MIN = 0; put 0 2 MAX = 0; put 0 3 -1 = 0",
                "put 0 7 ABSENT = 0; commit 0 = 5; committed 0 = 0; committed 1 = MIN",
                "committed 2 = MAX; committed 3 = -1; committed 7 = ABSENT; committedSize = 5");
        due("Promise 14: in the committed table, not in a view",
                "begin 0 loose = 0; put 0 0 5 = 0; commit 0 = 1; begin 1 loose = 0",
                "begin 0 loose = 0; put 0 0 6 = 1; committed 0 = 5; save 0 = 1; committed 0 = 5",
                "commit 0 = 1; committed 0 = 6; get 1 0 = 5; abort 1 = 0; committed 0 = 6");
    }

    private static void committedSize() {
        due("Promise 15: How many keys the committed table has, from none to eight",
                "committedSize = 0",
                each(0, 7, "begin 4 loose = 0; put 4 # 0 = 0; commit 4 = 1"), "committedSize = 8",
                "begin 4 loose = 0; put 4 0 1 = 1; commit 4 = 1; committedSize = 8",
                each(0, 6, "begin 4 loose = 0; remove 4 # = 0; commit 4 = 1"), "committedSize = 1",
                "begin 4 loose = 0; remove 4 7 = 0; committedSize = 1; commit 4 = 1",
                "committedSize = 0");
        due("Promise 15: the committed table, not a view",
                "begin 0 loose = 0", each(0, 7, "put 0 # 5 = 0"), "committedSize = 0; abort 0 = 8",
                "committedSize = 0; begin 0 loose = 0; put 0 0 5 = 0; crash = 1; committedSize = 0");
    }
}
