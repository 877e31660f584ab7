import java.util.ArrayList;
import java.util.List;

/** A run of calls that can be made again on new objects, so that two runs can be compared by many looks. */
final class Script {
    interface Call {
        int on(LikeRecords object);
    }

    /** What the document promises an object is used for. */
    private static final int MOST_CALLS = 512;
    private static final int MOST_STATES = 5;

    private final List<Call> calls = new ArrayList<>();

    Script copy() {
        Script copy = new Script();
        copy.calls.addAll(calls);
        return copy;
    }

    Script then(Call call) {
        calls.add(call);
        return this;
    }

    Script append(String text) {
        for (char sign : text.toCharArray()) {
            then(x -> x.append(sign));
        }
        return this;
    }

    Script read(String... texts) {
        for (String text : texts) {
            append(text).then(LikeRecords::read);
        }
        return this;
    }

    LikeRecords run() {
        LikeRecords object = new LikeRecords();
        for (Call call : calls) {
            call.on(object);
        }
        return object;
    }

    /** Whether all that can be seen is the same behind both runs, then and behind each undo() of what they did. */
    static boolean isSame(Script one, Script other) {
        Script first = one.copy();
        Script second = other.copy();
        for (int undone = 0; undone <= MOST_STATES; undone++) {
            if (!first.looks().equals(second.looks())) {
                return false;
            }
            first.then(LikeRecords::undo);
            second.then(LikeRecords::undo);
        }
        return true;
    }

    /** Whether the call, made behind this run, changes nothing that can be seen. */
    boolean isLeftBy(Call call) {
        return isSame(this, copy().then(call));
    }

    /** The answers to every look, on as many new objects as the calls of one object allow for. */
    private List<Integer> looks() {
        List<Integer> answers = new ArrayList<>();
        LikeRecords first = run();
        LikeRecords object = run();
        int made = calls.size();
        for (Call look : everyLook(first.count(1), first.count(2), first.count(3))) {
            if (made >= MOST_CALLS) {
                object = run();
                made = calls.size();
            }
            answers.add(look.on(object));
            made++;
        }
        return answers;
    }

    private static List<Call> everyLook(int records, int paths, int shapes) {
        List<Call> looks = new ArrayList<>();
        for (int i = 0; i < 10; i++) {
            int what = i;
            looks.add(x -> x.count(what));
            looks.add(x -> x.sizeWith(what + 1));
        }
        looks.add(LikeRecords::bestBound);
        for (int i = 0; i <= records; i++) {
            looksAtRecord(looks, i, paths);
        }
        for (int i = 0; i <= paths; i++) {
            int path = i;
            for (int j = 0; j < 6; j++) {
                int what = j;
                looks.add(x -> x.path(path, what));
            }
        }
        for (int i = 0; i <= shapes; i++) {
            looksAtShape(looks, i);
        }
        return looks;
    }

    private static void looksAtRecord(List<Call> looks, int record, int paths) {
        looks.add(x -> x.like(record));
        for (int i = 0; i < 5; i++) {
            int what = i;
            looks.add(x -> x.record(record, what));
        }
        for (int i = 0; i < 45; i++) {
            int index = i;
            looks.add(x -> x.character(record, index));
        }
        for (int i = 0; i < paths; i++) {
            int path = i;
            looks.add(x -> x.value(record, path));
        }
    }

    private static void looksAtShape(List<Call> looks, int shape) {
        for (int i = 0; i < 5; i++) {
            int what = i;
            looks.add(x -> x.shape(shape, what));
        }
        for (int i = 0; i < 12; i++) {
            int index = i;
            looks.add(x -> x.field(shape, index));
        }
        for (int i = 0; i < 9; i++) {
            int leaf = i / 3;
            int index = i % 3;
            looks.add(x -> x.column(shape, leaf, index));
        }
    }
}
