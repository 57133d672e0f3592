import java.util.ArrayList;
import java.util.List;

/**
 * "Refused calls change nothing (but see commit)", "The calls below change nothing and read nothing
 * in the sense of get", "Changes nothing that any call answers": two objects that have had the same
 * calls, but for one call that changes nothing, answer alike whatever is asked of them next.
 */
public final class ChangesNothingTest {
    // The values are at least 0 in all scenes, so that an answer below 0 is a refusal.
    private static final String[] SCENES = {
        "committedSize",
        "begin 4 loose; put 4 0 5; put 4 1 6; put 4 7 0; commit 4",
        // All active, each with something else: savepoints, keys held, read and late.
        "begin 4 loose; put 4 0 5; put 4 1 6; put 4 7 0; commit 4; begin 0 strict; begin 1 strict; "
            + "begin 2 loose; begin 3 strict; get 0 0; put 0 2 7; save 0; remove 0 1; put 0 2 8; "
            + "save 0; put 0 3 9; save 0; put 0 3 3; begin 4 loose; put 4 0 50; put 4 4 40; "
            + "commit 4; get 1 4; put 1 5 5; save 1; get 2 0; remove 2 7; begin 4 strict; put 4 0 51",
        // A strict reader of a late key that holds one, one that holds none, and an idle one.
        "begin 0 strict; begin 1 strict; begin 2 loose; get 0 6; get 1 6; put 0 0 1; save 0; "
            + "put 0 1 1; put 2 6 6; commit 2; begin 3 loose; put 3 7 7; undo 3",
        // After a crash and an unsafe commit, with savepoints and marks left behind.
        "begin 0 strict; get 0 0; put 0 1 1; save 0; save 0; save 0; begin 1 strict; put 1 0 0; "
            + "commit 1; commit 0; begin 2 strict; put 2 2 2; save 2; get 2 3; crash; "
            + "begin 2 strict; begin 4 strict; put 4 3 3; commit 4; begin 3 strict; put 3 4 4"};

    private static int refused = 0;

    public static void main(String[] args) {
        List<List<Call>> tails = tails();
        for (String scene : SCENES) {
            refusedCallsChangeNothing(Call.all(scene), tails);
            lookingChangesNothing(Call.all(scene), tails);
            vacuumChangesNothing(Call.all(scene), tails);
            unsafeCommitIsAnAbort(Call.all(scene), tails);
            crashIsAnAbortOfEach(Call.all(scene), tails);
        }
        Check.holds("more than 500 calls were refused", refused > 500);
        Check.finish();
    }

    private static VersionHeap after(List<Call> scene) {
        VersionHeap heap = new VersionHeap();
        for (Call call : scene) {
            call.on(heap);
        }
        return heap;
    }

    /** Asks both objects the same; each tail gets a new pair, since asking changes them. */
    private static void answerAlike(String what, List<Call> one, List<Call> other,
            List<List<Call>> tails) {
        for (List<Call> tail : tails) {
            VersionHeap left = after(one);
            VersionHeap right = after(other);
            for (Call call : tail) {
                int got = call.on(left);
                int want = call.on(right);
                // The text is long, so it is put together only where it is printed.
                Check.due(got == want ? "" : what + ", then in " + tail + " " + call, got, want);
            }
        }
    }

    private static List<Call> with(List<Call> scene, Call more) {
        List<Call> all = new ArrayList<>(scene);
        all.add(more);
        return all;
    }

    private static void refusedCallsChangeNothing(List<Call> scene, List<List<Call>> tails) {
        for (Call call : calls()) {
            int answer = call.on(after(scene));
            // Such a get is refused too, but by promise 5 the key is read then.
            boolean reads = call.name().equals("get") && answer == VersionHeap.ABSENT;
            if (answer < 0 && answer != VersionHeap.UNSAFE && !reads) {
                refused++;
                answerAlike("refused " + call + " after " + scene, with(scene, call), scene, tails);
            }
        }
    }

    private static void lookingChangesNothing(List<Call> scene, List<List<Call>> tails) {
        String[] looks = {"size #", "find # 5", "find # 0", "find # 99", "committed #"};
        for (String look : looks) {
            for (int number = 0; number < 8; number++) {
                Call call = Call.of(look.replace("#", "" + number));
                answerAlike(call + " after " + scene, with(scene, call), scene, tails);
            }
        }
        Call call = Call.of("committedSize");
        answerAlike(call + " after " + scene, with(scene, call), scene, tails);
    }

    private static void vacuumChangesNothing(List<Call> scene, List<List<Call>> tails) {
        Call vacuum = Call.of("vacuum");
        answerAlike("vacuum after " + scene, with(scene, vacuum), scene, tails);
        List<Call> swept = new ArrayList<>();
        for (Call call : scene) {
            swept.add(call);
            swept.add(vacuum);
        }
        answerAlike("vacuum all along " + scene, swept, scene, tails);
    }

    private static void unsafeCommitIsAnAbort(List<Call> scene, List<List<Call>> tails) {
        for (int tx = 0; tx < 5; tx++) {
            Call commit = Call.of("commit " + tx);
            if (commit.on(after(scene)) == VersionHeap.UNSAFE) {
                answerAlike("unsafe " + commit + " after " + scene, with(scene, commit),
                        with(scene, Call.of("abort " + tx)), tails);
            }
        }
    }

    private static void crashIsAnAbortOfEach(List<Call> scene, List<List<Call>> tails) {
        List<Call> aborted = new ArrayList<>(scene);
        aborted.addAll(forEachTx("abort T"));
        answerAlike("crash after " + scene, with(scene, Call.of("crash")), aborted, tails);
    }

    /** Every call that may be refused, with right and wrong numbers. */
    private static List<Call> calls() {
        String[] forms = {"begin T loose", "begin T strict", "put T K 77", "remove T K", "get T K",
            "save T", "undo T", "commit T", "abort T", "size T", "find T 77"};
        List<Call> calls = new ArrayList<>();
        for (String form : forms) {
            for (int tx = -1; tx <= 5; tx++) {
                for (int key = -1; key <= (form.contains("K") ? 8 : -1); key++) {
                    calls.add(Call.of(form.replace("T", "" + tx).replace("K", "" + key)));
                }
            }
        }
        return calls;
    }

    private static List<Call> forEachTx(String text) {
        List<Call> calls = new ArrayList<>();
        for (int tx = 0; tx < 5; tx++) {
            calls.addAll(Call.all(text.replace("T", "" + tx)));
        }
        return calls;
    }

    private static List<Call> forEachKey(String text) {
        List<Call> calls = new ArrayList<>();
        for (int key = 0; key < 8; key++) {
            calls.addAll(forEachTx(text.replace("K", "" + key)));
        }
        return calls;
    }

    /** Questions that together tell all that can be told of an object's state. */
    private static List<List<Call>> tails() {
        List<List<Call>> tails = new ArrayList<>();
        tails.add(forEachKey("get T K; committed K; size T; find T K; committedSize"));
        tails.add(forEachKey("put T K 9"));
        tails.add(forEachKey("remove T K"));
        tails.add(forEachTx("begin T loose; size T"));
        tails.add(forEachTx("save T; save T; save T; save T"));
        tails.add(forEachTx("commit T; committedSize"));
        tails.add(forEachTx("abort T"));
        tails.add(Call.all("crash; committedSize"));
        tails.add(undoing());
        tails.add(committing());
        for (int tx = 0; tx < 5; tx++) {
            for (int key = 0; key < 8; key++) {
                tails.add(askingWhatIsRead(tx, key));
            }
        }
        return tails;
    }

    private static List<Call> undoing() {
        List<Call> calls = new ArrayList<>();
        for (int time = 0; time < 4; time++) {
            calls.addAll(forEachTx("undo T"));
            calls.addAll(forEachKey("get T K"));
        }
        calls.addAll(forEachTx("abort T"));
        return calls;
    }

    private static List<Call> committing() {
        List<Call> calls = new ArrayList<>();
        calls.addAll(forEachKey("put T K 9"));
        calls.addAll(forEachTx("commit T"));
        calls.addAll(forEachKey("committed K"));
        calls.addAll(forEachTx("begin T strict; size T; save T; put T T 8; commit T"));
        return calls;
    }

    /** A commit of the key by another makes it late; then a commit tells if it was read. */
    private static List<Call> askingWhatIsRead(int tx, int key) {
        String text = "abort O; begin O loose; put O K 1; commit O; put T 0 2; put T 7 2; commit T";
        return Call.all(text.replace("O", "" + (tx + 1) % 5).replace("T", "" + tx)
                .replace("K", "" + key));
    }
}
