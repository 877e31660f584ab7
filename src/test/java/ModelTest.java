/** Runs of calls that a fixed sequence of numbers picks, on the class and on the plain model; none is longer than 512 calls. */
public final class ModelTest {
    private static final int RUNS = 1800;
    private static final int CALLS = 512;

    private final Due due;
    private final LikeRecords object = new LikeRecords();
    private final PlainModel model = new PlainModel();
    private final int letters;
    private final int fields;
    private final int faults;
    private final int rareness;
    private final int undoing;
    private long seed;
    private int calls = 0;

    private ModelTest(Due due, int run) {
        this.due = due;
        seed = run * 7919L + 17;
        letters = new int[] {1, 2, 4, 10, 26} [run % 5];
        fields = new int[] {1, 2, 4, 8, 16} [run / 5 % 5];
        faults = new int[] {0, 2, 6} [run / 25 % 3];
        rareness = new int[] {3, 15, 40} [run / 75 % 3];
        undoing = new int[] {12, 40} [run / 225 % 2];
        due.part("run " + run);
    }

    public static void main(String[] args) {
        Due due = new Due();
        for (int run = 0; run < RUNS && due.allRight(); run++) {
            new ModelTest(due, run).go();
        }
        due.end();
    }

    private int pick(int below) {
        seed = seed * 6364136223846793005L + 1442695040888963407L;
        return (int) ((seed >>> 33) % below);
    }

    private void go() {
        while (calls < CALLS && due.allRight()) {
            if (calls < 150 || pick(rareness) == 0) {
                readSome();
            } else if (pick(3) > 0) {
                actSome();
            } else {
                lookSome();
            }
        }
    }

    // ---- texts

    private void readSome() {
        String text = spoilt(fittingText());
        if (pick(100) == 0) {
            text = text + " ".repeat(80);
        }
        for (int i = 0; i < text.length(); i++) {
            call("append(" + (int) text.charAt(i) + ")", object.append(text.charAt(i)), model.append(text.charAt(i)));
        }
        call("read() of " + model.text, object.read(), model.read());
        if (pick(4) > 0) {
            call("clearText()", object.clearText(), model.clearText());
        }
    }

    private String fittingText() {
        String text = recordText(1, fields);
        for (int tries = 0; text.length() > 80 && tries < 20; tries++) {
            text = recordText(1, fields);
        }
        return text;
    }

    private String recordText(int level, int most) {
        StringBuilder text = new StringBuilder("{");
        int first = pick(letters);
        int count = Math.min(most / 2 + pick(most / 2 + 2), pick(20) == 0 ? letters + 1 : letters);
        for (int i = 0; i < count; i++) {
            text.append(i == 0 ? "" : ",").append((char) ('a' + (first + i) % letters)).append(':');
            if (pick(3) == 0 && level < (pick(15) == 0 ? 5 : 4)) {
                text.append(recordText(level + 1, most / 2 + 1));
            } else {
                text.append(pick(new int[] {10, 10, 10, 100, 1000} [pick(5)]));
            }
        }
        return text.append('}').toString();
    }

    private String spoilt(String text) {
        StringBuilder spoilt = new StringBuilder(text);
        if (pick(10) < faults) {
            String signs = "{}:,abz019 A-~";
            int place = pick(spoilt.length());
            switch (pick(4)) {
                case 0: spoilt.setCharAt(place, signs.charAt(pick(signs.length()))); break;
                case 1: spoilt.insert(place, signs.charAt(pick(signs.length()))); break;
                case 2: spoilt.deleteCharAt(place); break;
                default: spoilt.setLength(place); break;
            }
        }
        for (int spaces = pick(4) == 0 ? pick(4) : 0; spaces > 0; spaces--) {
            spoilt.insert(pick(spoilt.length() + 1), ' ');
        }
        return spoilt.toString();
    }

    // ---- arguments, now and then out of range

    private int any(int below) {
        if (pick(30) == 0) {
            return new int[] {-1, below, below + 1, -1000000, Integer.MAX_VALUE, Integer.MIN_VALUE, 1 << 30} [pick(7)];
        }
        return below <= 0 ? 0 : pick(below);
    }

    private int anyRecord() {
        return any(model.count(1));
    }

    private int anyPath() {
        return any(model.count(2));
    }

    /** Mostly the path of a field of the record, if it has one. */
    private int pathFor(int record) {
        int fieldsThere = model.record(record, 1) + model.record(record, 2);
        if (pick(5) == 0 || fieldsThere <= 0) {
            return anyPath();
        }
        return model.field(model.record(record, 0), pick(fieldsThere)) % 100;
    }

    private int anyShape() {
        return any(model.count(3));
    }

    // ---- calls

    private void call(String call, int got, int wanted) {
        calls++;
        if (calls <= CALLS) {
            due.is(call, got, wanted);
        }
    }

    private void actSome() {
        int record = anyRecord();
        int path = pathFor(record);
        switch (pick(undoing)) {
            case 0: call("discard(" + record + ")", object.discard(record), model.discard(record)); break;
            case 1: case 2: case 3: {
                int value = any(1000);
                call("change(" + record + ", " + path + ", " + value + ")",
                    object.change(record, path, value), model.change(record, path, value));
                break;
            }
            case 4: case 5: case 6: case 7:
                call("drop(" + record + ", " + path + ")", object.drop(record, path), model.drop(record, path));
                break;
            case 8: case 9: {
                int bound = 1 + any(pick(3) == 0 ? 10 : 3);
                call("setBound(" + bound + ")", object.setBound(bound), model.setBound(bound));
                break;
            }
            case 10: call("undo()", object.undo(), model.undo()); break;
            case 11: {
                int character = any(pick(2) == 0 ? 2 : 300);
                call("append(" + character + ")", object.append(character), model.append(character));
                break;
            }
            default:
                call("drop(" + record + ", " + path + ")", object.drop(record, path), model.drop(record, path));
                break;
        }
    }

    private void lookSome() {
        int record = anyRecord();
        int path = pick(3) == 0 ? pathFor(record) : anyPath();
        int shape = anyShape();
        switch (pick(11)) {
            case 0: case 1: {
                int what = any(10);
                call("count(" + what + ")", object.count(what), model.count(what));
                break;
            }
            case 2: {
                int what = any(5);
                call("record(" + record + ", " + what + ")", object.record(record, what), model.record(record, what));
                break;
            }
            case 3: {
                int index = any(pick(4) == 0 ? 90 : 20);
                call("character(" + record + ", " + index + ")", object.character(record, index), model.character(record, index));
                break;
            }
            case 4: call("value(" + record + ", " + path + ")", object.value(record, path), model.value(record, path)); break;
            case 5: {
                int what = any(6);
                call("path(" + path + ", " + what + ")", object.path(path, what), model.path(path, what));
                break;
            }
            default: lookAtShapes(shape, record); break;
        }
    }

    private void lookAtShapes(int shape, int record) {
        switch (pick(6)) {
            case 0: {
                int what = any(5);
                call("shape(" + shape + ", " + what + ")", object.shape(shape, what), model.shape(shape, what));
                break;
            }
            case 1: {
                int leaf = any(4);
                int index = any(4);
                call("column(" + shape + ", " + leaf + ", " + index + ")",
                    object.column(shape, leaf, index), model.column(shape, leaf, index));
                break;
            }
            case 2: {
                int index = any(6);
                call("field(" + shape + ", " + index + ")", object.field(shape, index), model.field(shape, index));
                break;
            }
            case 3: {
                int bound = 1 + any(10);
                call("sizeWith(" + bound + ")", object.sizeWith(bound), model.sizeWith(bound));
                break;
            }
            case 4: call("bestBound()", object.bestBound(), model.bestBound()); break;
            default: call("like(" + record + ")", object.like(record), model.like(record)); break;
        }
    }
}
