import java.util.function.IntUnaryOperator;

/** The sentences about looking: paths and shapes, and promises 10 to 17. */
final class LookSentences {
    private static final int MIN = Integer.MIN_VALUE;
    private static final int MAX = Integer.MAX_VALUE;
    private static final int[] NOT_THERE = {-1, -2, -9, -10, 60, 100, 101, 65536, 1 << 30, MIN, MIN + 1, MAX};
    private static final int[] NEGATIVE = {-1, -2, -9, -100, MIN, MIN + 1};

    private final Book book;

    private LookSentences(Book book) {
        this.book = book;
    }

    static void all(Book book) {
        LookSentences sentences = new LookSentences(book);
        book.section("Paths");
        sentences.paths();
        sentences.pathsKnown();
        sentences.leavesAndBranches();
        book.section("Shapes");
        sentences.shapes();
        sentences.shapesKnown();
        sentences.commonShapes();
        book.section("Promise 10");
        sentences.count();
        book.section("Promise 11");
        sentences.record();
        book.section("Promise 12");
        sentences.character();
        book.section("Promise 13");
        sentences.value();
        book.section("Promise 14");
        sentences.path();
        book.section("Promise 15");
        sentences.shape();
        book.section("Promise 16");
        sentences.column();
        sentences.columnRefused();
        book.section("Promise 17");
        sentences.field();
    }

    private void whatOutOf(int most, IntUnaryOperator call) {
        for (int what : new int[] {-1, -2, -9, most + 1, most + 2, 256, 65536, MIN, MIN + 1, MAX}) {
            book.is("what " + what, call.applyAsInt(what), -1);
        }
    }

    // ---- Paths

    private void paths() {
        book.says("A path is a letter in a record, with the path of the inner record in which it stands (none in the "
            + "outer one).");
        LikeRecords x = book.with("{a:{a:{a:{a:1},b:2},b:3},b:4}");
        int[][] paths = {{'a', -9}, {'a', 0}, {'a', 1}, {'a', 2}, {'b', 1}, {'b', 0}, {'b', -9}};
        book.is("count(2)", x.count(2), 7);
        for (int path = 0; path < 7; path++) {
            book.is("path(" + path + ", 0)", x.path(path, 0), paths[path][0]);
            book.is("path(" + path + ", 1)", x.path(path, 1), paths[path][1]);
        }
        LikeRecords y = book.with("{a:{z:1},b:{z:2}}", "{z:3}");
        book.is("count(2), a letter in three records", y.count(2), 5);
        book.is("value(0, 1)", y.value(0, 1), 1);
        book.is("value(0, 3)", y.value(0, 3), 2);
        book.is("value(0, 4)", y.value(0, 4), -9);
        book.is("value(1, 4)", y.value(1, 4), 3);
        book.says("Paths are numbered from 0 in the order in which they first stood in a record that was read (a "
            + "branch ahead of what is in it);");
        LikeRecords z = book.with("{b:{z:1,c:{}},a:2}", "{d:3,a:{z:4},b:{e:5,c:6}}");
        int[][] order = {{'b', -9}, {'z', 0}, {'c', 0}, {'a', -9}, {'d', -9}, {'z', 3}, {'e', 0}};
        book.is("count(2)", z.count(2), 7);
        for (int path = 0; path < 7; path++) {
            book.is("path(" + path + ", 0)", z.path(path, 0), order[path][0]);
            book.is("path(" + path + ", 1)", z.path(path, 1), order[path][1]);
        }
        LikeRecords w = new LikeRecords();
        book.is("read() that fails behind new paths", Due.read(w, "{a:{b:1},c:2,"), -1013);
        w.clearText();
        book.is("count(2)", w.count(2), 0);
        book.is("read()", Due.read(w, "{c:{b:1}}"), 0);
        book.is("path(0, 0)", w.path(0, 0), 'c');
        book.is("path(1, 1)", w.path(1, 1), 0);
    }

    private void pathsKnown() {
        book.says("at most 60 are known, and they stay known (but undo() forgets those that came by what it undoes).");
        LikeRecords x = Full.paths().run();
        book.is("count(2)", x.count(2), 60);
        book.is("path(59, 0)", x.path(59, 0), 'i');
        book.is("path(60, 0)", x.path(60, 0), -1);
        book.is("read() with a 61st", Due.read(x, "{g:1}"), -3);
        book.is("count(2)", x.count(2), 60);
        x.clearText();
        book.is("drop(5, 50)", x.drop(5, 50), 6);
        book.is("discard(5)", x.discard(5), 5);
        book.is("count(2), dropped and thrown away ones stay known", x.count(2), 60);
        book.is("path(59, 0)", x.path(59, 0), 'i');
        book.is("path(59, 2)", x.path(59, 2), 0);
        book.is("undo()", x.undo(), 4);
        book.is("undo()", x.undo(), 3);
        book.is("count(2), they came by neither", x.count(2), 60);
        book.is("undo() of read()", x.undo(), 2);
        book.is("count(2)", x.count(2), 50);
        book.is("path(50, 0), forgotten", x.path(50, 0), -1);
        book.is("value(0, 50), forgotten", x.value(0, 50), -1);
        book.is("read()", Due.read(x, "{h:1,a:{i:2,j:3}}"), 5);
        book.is("count(2)", x.count(2), 52);
        book.is("path(50, 0)", x.path(50, 0), 'h');
        book.is("path(51, 0)", x.path(51, 0), 'j');
        book.is("path(51, 1)", x.path(51, 1), 0);
    }

    private void leavesAndBranches() {
        book.says("A path is a leaf of a record if a number stands there in it, and a branch if an inner record stands "
            + "there.");
        LikeRecords x = book.with("{a:1,b:{c:0}}", "{a:{},b:2}");
        book.is("value(0, 0)", x.value(0, 0), 1);
        book.is("value(0, 1)", x.value(0, 1), -9);
        book.is("value(0, 2)", x.value(0, 2), 0);
        book.is("value(1, 0)", x.value(1, 0), -9);
        book.is("value(1, 1)", x.value(1, 1), 2);
        book.is("value(1, 2)", x.value(1, 2), -9);
        int[][] holding = {{1, 1}, {1, 1}, {1, 0}};
        for (int path = 0; path < 3; path++) {
            book.is("path(" + path + ", 2)", x.path(path, 2), holding[path][0]);
            book.is("path(" + path + ", 3)", x.path(path, 3), holding[path][1]);
        }
    }

    // ---- Shapes

    private void shapes() {
        book.says("The shape of a record is its text without spaces and numbers (so the letters, their order, and the "
            + "signs are in it).");
        LikeRecords x = book.with("{a:1,b:2}", " { a : 999 , b:0 } ", "{b:2,a:1}", "{a:1,b:{}}", "{a:{b:1}}", "{a:{},b:1}",
            "{a:1,c:2}", "{a:1}", "{}", "{a:{b:{}}}", "{a:{b:7}}", "{b:{a:7}}");
        int[] shapes = {0, 0, 1, 2, 3, 4, 5, 6, 7, 8, 3, 9};
        for (int record = 0; record < shapes.length; record++) {
            book.is("record(" + record + ", 0)", x.record(record, 0), shapes[record]);
        }
        book.is("change(0, 0, 5)", x.change(0, 0, 5), 1);
        book.is("record(0, 0), whatever the values", x.record(0, 0), 0);
        book.says("Shapes are numbered from 0 in the order in which a record first had them;");
        LikeRecords y = book.with("{b:1,a:2}", "{b:1}", "{b:3,a:4}", "{}");
        book.is("drop(0, 0)", y.drop(0, 0), 3);
        book.is("drop(1, 0)", y.drop(1, 0), 2);
        book.is("drop(2, 1)", y.drop(2, 1), 1);
        book.is("read()", Due.read(y, "{c:1}"), 4);
        book.is("record(4, 0)", y.record(4, 0), 4);
        int[] sizes = {2, 1, 0, 1, 1};
        for (int shape = 0; shape < sizes.length; shape++) {
            book.is("shape(" + shape + ", 2)", y.shape(shape, 2), sizes[shape]);
        }
    }

    private void shapesKnown() {
        book.says("at most 40 are known, and they stay known (but undo() forgets those that came by what it undoes).");
        LikeRecords x = Full.shapes().run();
        book.is("count(3)", x.count(3), 40);
        book.is("shape(39, 0)", x.shape(39, 0), 1);
        book.is("shape(40, 0)", x.shape(40, 0), -1);
        book.is("read() of a 41st", Due.read(x, "{}"), -3);
        x.clearText();
        book.is("drop(4, 9) into a 41st", x.drop(4, 9), -3);
        book.is("count(3)", x.count(3), 40);
        book.is("discard(4)", x.discard(4), 4);
        book.is("count(3), shapes without records stay known", x.count(3), 40);
        book.is("shape(39, 0)", x.shape(39, 0), 0);
        book.is("shape(39, 2)", x.shape(39, 2), 7);
        book.is("shape(0, 0)", x.shape(0, 0), 0);
        book.is("shape(0, 2)", x.shape(0, 2), 10);
        book.is("undo()", x.undo(), 4);
        book.is("count(3), none came by it", x.count(3), 40);
        book.is("undo() of drop()", x.undo(), 3);
        book.is("count(3)", x.count(3), 39);
        book.is("shape(39, 0), forgotten", x.shape(39, 0), -1);
        book.is("field(39, 0), forgotten", x.field(39, 0), -1);
        book.is("read()", Due.read(x, "{}"), 5);
        book.is("record(5, 0)", x.record(5, 0), 39);
        book.is("shape(39, 2)", x.shape(39, 2), 0);
        LikeRecords y = book.with("{a:1}", "{b:1}");
        book.is("undo() of read()", y.undo(), 1);
        book.is("count(3)", y.count(3), 1);
        book.is("shape(1, 0), forgotten", y.shape(1, 0), -1);
    }

    private void commonShapes() {
        book.says("A shape is common if at least as many records have it as the bound (1 to 10;");
        LikeRecords x = new LikeRecords();
        book.is("setBound(10)", x.setBound(10), 0);
        for (int records = 1; records <= 11; records++) {
            book.is("read()", Due.read(x, "{a:1}"), records - 1);
            book.is("shape(0, 1)", x.shape(0, 1), records >= 10 ? 1 : 0);
        }
        LikeRecords y = book.with("{a:1}", "{a:1}", "{a:1}", "{b:1}", "{b:1}", "{c:1}");
        for (int bound = 1; bound <= 10; bound++) {
            y.setBound(bound);
            book.is("shape(0, 1), bound " + bound, y.shape(0, 1), bound <= 3 ? 1 : 0);
            book.is("shape(1, 1), bound " + bound, y.shape(1, 1), bound <= 2 ? 1 : 0);
            book.is("shape(2, 1), bound " + bound, y.shape(2, 1), bound <= 1 ? 1 : 0);
        }
        y.setBound(1);
        y.discard(5);
        book.is("shape(2, 1) without records", y.shape(2, 1), 0);
        book.says("at first 2) says;");
        LikeRecords z = new LikeRecords();
        book.is("count(7)", z.count(7), 2);
        book.is("read()", Due.read(z, "{}"), 0);
        book.is("shape(0, 1)", z.shape(0, 1), 0);
        book.is("read()", Due.read(z, "{}"), 1);
        book.is("shape(0, 1)", z.shape(0, 1), 1);
        book.says("the records of all other shapes are rare.");
        LikeRecords w = book.with("{a:1}", "{a:1}", "{a:1}", "{b:1}", "{b:1}", "{c:1}");
        int[] rare = {0, 1, 3, 6, 6, 6, 6, 6, 6, 6};
        for (int bound = 1; bound <= 10; bound++) {
            w.setBound(bound);
            book.is("count(5), bound " + bound, w.count(5), rare[bound - 1]);
        }
        book.is("discard(5)", w.discard(5), 5);
        book.is("count(5)", w.count(5), 5);
    }

    // ---- promise 10

    private void count() {
        book.says("`int count(int what)`: Returns a number.");
        book.is("count(1)", book.with("{}").count(1), 1);
        book.says("- `what`: 0 the number of records, 1 of records that were read (thrown away ones included), 2 of paths, "
            + "3 of shapes, 4 of common shapes, 5 of rare records, 6 the size of what is kept, 7 the bound, 8 the number of "
            + "states in the history, 9 the length of the text");
        LikeRecords x = Full.some().run();
        book.is("setBound(1)", x.setBound(1), 2);
        int[] counts = {3, 4, 6, 2, 2, 0, 3 + 1 + 4 + 4 + 1 + 2 + 1, 1, 5, 2};
        for (int what = 0; what <= 9; what++) {
            book.is("count(" + what + ")", x.count(what), counts[what]);
        }
        book.is("undo()", x.undo(), 4);
        int[] before = {3, 4, 6, 2, 1, 1, 3 + 1 + 4 + 4 + 2 + 1, 2, 4, 2};
        for (int what = 0; what <= 9; what++) {
            book.is("count(" + what + ")", x.count(what), before[what]);
        }
        book.says("Returns the number;");
        LikeRecords full = Full.records().append("x".repeat(80)).run();
        book.is("count(0)", full.count(0), 30);
        book.is("count(1)", full.count(1), 30);
        book.is("count(8)", full.count(8), 5);
        book.is("count(9)", full.count(9), 80);
        book.is("count(2)", Full.paths().run().count(2), 60);
        book.is("count(3)", Full.shapes().run().count(3), 40);
        for (int record = 0; record < 30; record++) {
            book.is("discard(" + record + ")", full.discard(record), 29 - record);
        }
        int[] emptied = {0, 30, 1, 2, 0, 0, 0, 2, 5, 80};
        for (int what = 0; what <= 9; what++) {
            book.is("count(" + what + ") where all are thrown away", full.count(what), emptied[what]);
        }
        book.says("INVALID_ARGUMENT if what is out of range.");
        whatOutOf(9, x::count);
        whatOutOf(9, new LikeRecords()::count);
    }

    // ---- promises 11 to 13

    private void record() {
        book.says("`int record(int record, int what)`: Returns a property of a record.");
        LikeRecords x = Full.some().run();
        book.is("record(3, 4)", x.record(3, 4), 5);
        book.says("- `record`: a record");
        LikeRecords full = Full.records().run();
        for (int record = 0; record < 30; record++) {
            book.is("record(" + record + ", 0)", full.record(record, 0), record == 29 ? 1 : 0);
        }
        book.says("- `what`: 0 its shape, 1 the number of its leaves, 2 of its branches, 3 the length of its text as it comes "
            + "back, 4 the sum of its values");
        int[][] answers = {{0, 2, 2, 18, 3}, {0, 2, 2, 18, 7}, {1, 1, 1, 9, 5}};
        for (int what = 0; what <= 4; what++) {
            book.is("record(0, " + what + ")", x.record(0, what), answers[0][what]);
            book.is("record(2, " + what + ")", x.record(2, what), answers[1][what]);
            book.is("record(3, " + what + ")", x.record(3, what), answers[2][what]);
        }
        book.says("Returns the property;");
        LikeRecords y = book.with("{}", "{a:{b:{c:{}}}}", Full.TEN_NUMBERS);
        int[][] edges = {{0, 0, 0, 2, 0}, {1, 0, 3, 14, 0}, {2, 10, 0, 41, 45}};
        for (int record = 0; record < 3; record++) {
            for (int what = 0; what <= 4; what++) {
                book.is("record(" + record + ", " + what + ")", y.record(record, what), edges[record][what]);
            }
        }
        for (int path = 0; path < y.count(2); path++) {
            y.change(2, path, 999);
        }
        book.is("record(2, 3)", y.record(2, 3), 61);
        book.is("record(2, 4)", y.record(2, 4), 9990);
        book.is("record(0, 4)", y.record(0, 4), 0);
        book.says("INVALID_ARGUMENT if there is no such record or what is out of range.");
        for (int record : NOT_THERE) {
            book.is("record(" + record + ", 0)", x.record(record, 0), -1);
        }
        book.is("record(4, 0), one behind the last", x.record(4, 0), -1);
        book.is("record(1, 0), thrown away", x.record(1, 0), -1);
        book.is("record(30, 0)", full.record(30, 0), -1);
        book.is("record(0, 0) of a new object", new LikeRecords().record(0, 0), -1);
        book.is("record(1, 5)", x.record(1, 5), -1);
        whatOutOf(4, what -> x.record(0, what));
    }

    private void character() {
        book.says("`int character(int record, int index)`: Returns a character of the text of a record as it comes back.");
        LikeRecords x = book.with(" { b : 10 , a : { c : 207 } } ", "{}");
        book.back(x, 0, "{b:10,a:{c:207}}");
        book.says("- `record`: a record");
        LikeRecords full = Full.records().run();
        for (int record = 0; record < 30; record++) {
            book.is("character(" + record + ", 1)", full.character(record, 1), record == 29 ? 'a' : '}');
        }
        book.says("- `index`: 0 for the first one, and so on");
        book.is("character(0, 0)", x.character(0, 0), '{');
        book.is("character(0, 1)", x.character(0, 1), 'b');
        book.is("character(1, 0)", x.character(1, 0), '{');
        book.says("Returns its code;");
        String text = "{b:10,a:{c:207}}";
        for (int i = 0; i < text.length(); i++) {
            book.is("character(0, " + i + ")", x.character(0, i), text.charAt(i));
        }
        book.says("INVALID_ARGUMENT if there is no such record or index is negative;");
        for (int index : NEGATIVE) {
            book.is("character(0, " + index + ")", x.character(0, index), -1);
            book.is("character(5, " + index + ")", x.character(5, index), -1);
        }
        for (int record : NOT_THERE) {
            book.is("character(" + record + ", 0)", x.character(record, 0), -1);
            book.is("character(" + record + ", 99)", x.character(record, 99), -1);
        }
        book.is("character(2, 0), one behind the last", x.character(2, 0), -1);
        book.is("character(30, 0)", full.character(30, 0), -1);
        book.is("character(1, 0), thrown away", Full.some().run().character(1, 0), -1);
        book.is("character(0, 0) of a new object", new LikeRecords().character(0, 0), -1);
        book.says("NONE if there are not so many.");
        for (int index : new int[] {16, 17, 30, 80, 99, 100, 101, 65536, MAX - 1, MAX}) {
            book.is("character(0, " + index + ")", x.character(0, index), -9);
        }
        book.is("character(1, 1)", x.character(1, 1), '}');
        book.is("character(1, 2)", x.character(1, 2), -9);
        book.is("change(0, 0, 7)", x.change(0, 0, 7), 10);
        book.is("character(0, 14)", x.character(0, 14), '}');
        book.is("character(0, 15), shorter now", x.character(0, 15), -9);
    }

    private void value() {
        book.says("`int value(int record, int path)`: Returns the value of a record at a path.");
        LikeRecords x = Full.some().run();
        book.is("value(2, 2)", x.value(2, 2), 4);
        book.says("- `record`: a record");
        book.is("value(0, 2)", x.value(0, 2), 2);
        book.is("value(29, 0)", Full.records().run().value(29, 0), 7);
        book.says("- `path`: a path");
        book.is("value(0, 0)", x.value(0, 0), 1);
        book.is("value(5, 59)", Full.paths().run().value(5, 59), 9);
        book.says("Returns the value;");
        LikeRecords y = book.with("{a:0}", "{a:999}");
        book.is("value(0, 0)", y.value(0, 0), 0);
        book.is("value(1, 0)", y.value(1, 0), 999);
        book.is("change(0, 0, 999)", y.change(0, 0, 999), 0);
        book.is("value(0, 0)", y.value(0, 0), 999);
        book.says("INVALID_ARGUMENT if there is no such record or no such path;");
        for (int wrong : NOT_THERE) {
            book.is("value(" + wrong + ", 0)", x.value(wrong, 0), -1);
            book.is("value(0, " + wrong + ")", x.value(0, wrong), -1);
        }
        book.is("value(4, 0), one behind the last", x.value(4, 0), -1);
        book.is("value(1, 4), thrown away", x.value(1, 4), -1);
        book.is("value(0, 6), one behind the last path", x.value(0, 6), -1);
        book.is("value(30, 0)", Full.records().run().value(30, 0), -1);
        book.is("value(0, 60)", Full.paths().run().value(0, 60), -1);
        book.is("value(0, 0) of a new object", new LikeRecords().value(0, 0), -1);
        book.says("NONE if the path is no leaf of the record.");
        book.is("value(0, 1), a branch", x.value(0, 1), -9);
        book.is("value(0, 3), an empty branch", x.value(0, 3), -9);
        book.is("value(0, 5), not in the record", x.value(0, 5), -9);
        book.is("value(3, 0), not in the record", x.value(3, 0), -9);
        book.is("drop(0, 0)", x.drop(0, 0), 2);
        book.is("value(0, 0), dropped", x.value(0, 0), -9);
    }

    // ---- promises 14 and 15

    private void path() {
        book.says("`int path(int path, int what)`: Returns a property of a path.");
        LikeRecords x = Full.some().run();
        book.is("path(4, 0)", x.path(4, 0), 'c');
        book.says("- `path`: a path");
        LikeRecords full = Full.paths().run();
        for (int path = 0; path < 60; path++) {
            int letter = path % 10 == 0 ? 'a' + path / 10 : 'a' + path % 10 - 1;
            book.is("path(" + path + ", 0)", full.path(path, 0), letter);
        }
        book.says("- `what`: 0 the code of its letter, 1 the path of the inner record in which it stands (NONE if it stands in "
            + "the outer one), 2 the number of records of which it is a leaf, 3 of which it is a branch, 4 the sum of the "
            + "values at it, 5 the cost of reading it alone");
        // each record of the common shape costs 1 at a leaf, the rare one always its leaf and branch
        int[][] answers = {{'a', -9, 2, 0, 4, 4}, {'b', -9, 0, 2, 0, 2}, {'c', 1, 2, 0, 6, 4}, {'d', 1, 0, 2, 0, 2},
            {'c', -9, 0, 1, 0, 2}, {'a', 4, 1, 0, 5, 2}};
        for (int path = 0; path < 6; path++) {
            for (int what = 0; what <= 5; what++) {
                book.is("path(" + path + ", " + what + ")", x.path(path, what), answers[path][what]);
            }
        }
        book.says("Returns the property;");
        LikeRecords y = new LikeRecords();
        for (int record = 0; record < 30; record++) {
            book.is("read()", Due.read(y, "{a:999}"), record);
        }
        book.is("path(0, 2)", y.path(0, 2), 30);
        book.is("path(0, 4)", y.path(0, 4), 29970);
        book.is("path(0, 5)", y.path(0, 5), 30);
        for (int record = 0; record < 30; record++) {
            book.is("discard(" + record + ")", y.discard(record), 29 - record);
        }
        int[] emptied = {'a', -9, 0, 0, 0, 0};
        for (int what = 0; what <= 5; what++) {
            book.is("path(0, " + what + ") without records", y.path(0, what), emptied[what]);
        }
        book.says("INVALID_ARGUMENT if there is no such path or what is out of range.");
        for (int path : NOT_THERE) {
            book.is("path(" + path + ", 0)", x.path(path, 0), -1);
            book.is("path(" + path + ", 1)", x.path(path, 1), -1);
        }
        book.is("path(6, 0), one behind the last", x.path(6, 0), -1);
        book.is("path(60, 0)", full.path(60, 0), -1);
        book.is("path(6, 6)", x.path(6, 6), -1);
        book.is("path(0, 0) of a new object", new LikeRecords().path(0, 0), -1);
        whatOutOf(5, what -> x.path(0, what));
    }

    private void shape() {
        book.says("`int shape(int shape, int what)`: Returns a property of a shape.");
        LikeRecords x = Full.some().run();
        book.is("shape(1, 4)", x.shape(1, 4), 8);
        book.says("- `shape`: a shape");
        LikeRecords full = Full.shapes().run();
        book.is("shape(0, 2)", full.shape(0, 2), 10);
        book.is("shape(39, 2)", full.shape(39, 2), 7);
        book.says("- `what`: 0 the number of records that have it, 1 1 if it is common and 0 if not, 2 the number of its leaves, "
            + "3 of its branches, 4 the length of its text");
        int[][] answers = {{2, 1, 2, 2, 16}, {1, 0, 1, 1, 8}};
        for (int shape = 0; shape < 2; shape++) {
            for (int what = 0; what <= 4; what++) {
                book.is("shape(" + shape + ", " + what + ")", x.shape(shape, what), answers[shape][what]);
            }
        }
        book.says("Returns the property;");
        LikeRecords y = book.with("{}", "{a:{b:{c:{}}}}", Full.TEN_NUMBERS.replace("0", "999"));
        int[][] edges = {{1, 0, 0, 0, 2}, {1, 0, 0, 3, 14}, {1, 0, 10, 0, 31}};
        for (int shape = 0; shape < 3; shape++) {
            for (int what = 0; what <= 4; what++) {
                book.is("shape(" + shape + ", " + what + ")", y.shape(shape, what), edges[shape][what]);
            }
        }
        book.is("discard(1)", y.discard(1), 2);
        book.is("setBound(1)", y.setBound(1), 2);
        int[] emptied = {0, 0, 0, 3, 14};
        for (int what = 0; what <= 4; what++) {
            book.is("shape(1, " + what + ") without records", y.shape(1, what), emptied[what]);
        }
        book.is("shape(0, 0) of 29 records", Full.records().run().shape(0, 0), 29);
        book.says("INVALID_ARGUMENT if there is no such shape or what is out of range.");
        for (int shape : NOT_THERE) {
            book.is("shape(" + shape + ", 0)", x.shape(shape, 0), -1);
        }
        book.is("shape(2, 0), one behind the last", x.shape(2, 0), -1);
        book.is("shape(40, 0)", full.shape(40, 0), -1);
        book.is("shape(2, 5)", x.shape(2, 5), -1);
        book.is("shape(0, 0) of a new object", new LikeRecords().shape(0, 0), -1);
        whatOutOf(4, what -> x.shape(0, what));
    }

    // ---- promises 16 and 17

    private void column() {
        book.says("`int column(int shape, int leaf, int index)`: Returns a value of a column of a common shape.");
        LikeRecords x = Full.some().run();
        book.is("column(0, 1, 1)", x.column(0, 1, 1), 4);
        book.says("- `shape`: a shape");
        LikeRecords y = book.with("{b:{}}", "{b:{x:5},a:6}", "{b:{x:7},a:8}", "{b:{x:0},a:999}");
        book.is("column(1, 0, 0)", y.column(1, 0, 0), 5);
        LikeRecords full = Full.shapes().run();
        book.is("setBound(1)", full.setBound(1), 5);
        book.is("column(39, 6, 0)", full.column(39, 6, 0), 9);
        book.says("- `leaf`: 0 for its first leaf in the text, and so on");
        book.is("column(1, 0, 1)", y.column(1, 0, 1), 7);
        book.is("column(1, 1, 1)", y.column(1, 1, 1), 8);
        book.says("- `index`: 0 for its record with the smallest number, and so on");
        book.is("column(1, 1, 0)", y.column(1, 1, 0), 6);
        book.is("column(1, 1, 2)", y.column(1, 1, 2), 999);
        book.is("discard(2)", y.discard(2), 3);
        book.is("column(1, 1, 0)", y.column(1, 1, 0), 6);
        book.is("column(1, 1, 1), one was thrown away", y.column(1, 1, 1), 999);
        LikeRecords z = book.with("{a:1,b:2}", "{b:3}", "{b:4}");
        book.is("drop(0, 0)", z.drop(0, 0), 1);
        for (int index = 0; index < 3; index++) {
            book.is("column(1, 0, " + index + ")", z.column(1, 0, index), index + 2);
        }
        book.says("Returns the value;");
        LikeRecords records = Full.records().run();
        book.is("setBound(1)", records.setBound(1), 2);
        book.is("column(1, 0, 0)", records.column(1, 0, 0), 7);
        book.is("change(29, 0, 0)", records.change(29, 0, 0), 7);
        book.is("column(1, 0, 0)", records.column(1, 0, 0), 0);
    }

    private void columnRefused() {
        book.says("INVALID_ARGUMENT if there is no such shape, or leaf or index is negative;");
        LikeRecords x = Full.some().run();
        for (int shape : NOT_THERE) {
            book.is("column(" + shape + ", 0, 0)", x.column(shape, 0, 0), -1);
        }
        book.is("column(2, 0, 0), one behind the last", x.column(2, 0, 0), -1);
        book.is("column(40, 0, 0)", Full.shapes().run().column(40, 0, 0), -1);
        book.is("column(0, 0, 0) of a new object", new LikeRecords().column(0, 0, 0), -1);
        for (int wrong : NEGATIVE) {
            book.is("column(0, " + wrong + ", 0)", x.column(0, wrong, 0), -1);
            book.is("column(0, 0, " + wrong + ")", x.column(0, 0, wrong), -1);
            book.is("column(1, " + wrong + ", 0), not common", x.column(1, wrong, 0), -1);
            book.is("column(1, 0, " + wrong + "), not common", x.column(1, 0, wrong), -1);
        }
        book.says("ILLEGAL_STATE if the shape is not common;");
        book.is("column(1, 0, 0)", x.column(1, 0, 0), -2);
        book.is("column(1, 9, 9)", x.column(1, 9, 9), -2);
        book.is("setBound(3)", x.setBound(3), 0);
        book.is("column(0, 0, 0), too few for the bound", x.column(0, 0, 0), -2);
        book.is("setBound(1)", x.setBound(1), 2);
        book.is("column(1, 0, 0), common now", x.column(1, 0, 0), 5);
        book.is("discard(3)", x.discard(3), 2);
        book.is("column(1, 0, 0), no record has it", x.column(1, 0, 0), -2);
        book.says("NONE if there are not so many leaves or records.");
        for (int wrong : new int[] {2, 3, 9, 10, 11, 30, 60, 65536, 1 << 30, MAX - 1, MAX}) {
            book.is("column(0, " + wrong + ", 0)", x.column(0, wrong, 0), -9);
            book.is("column(0, 0, " + wrong + ")", x.column(0, 0, wrong), -9);
            book.is("column(0, " + wrong + ", " + wrong + ")", x.column(0, wrong, wrong), -9);
        }
        book.is("column(0, 1, 1)", x.column(0, 1, 1), 4);
        LikeRecords y = Full.records().run();
        book.is("column(0, 0, 0), a common shape without leaves", y.column(0, 0, 0), -9);
        LikeRecords z = book.with(Full.TEN_NUMBERS, Full.TEN_NUMBERS, "{a:5}");
        book.is("column(0, 9, 1)", z.column(0, 9, 1), 9);
        book.is("column(0, 10, 0)", z.column(0, 10, 0), -9);
        book.is("column(0, 10, 1)", z.column(0, 10, 1), -9);
        book.is("column(0, 0, 2)", z.column(0, 0, 2), -9);
    }

    private void field() {
        book.says("`int field(int shape, int index)`: Returns the path of a field of a shape.");
        LikeRecords x = Full.some().run();
        book.is("field(0, 2)", x.field(0, 2), 2);
        book.says("- `shape`: a shape");
        book.is("field(1, 1)", x.field(1, 1), 5);
        LikeRecords full = Full.shapes().run();
        book.is("field(39, 6)", full.field(39, 6), 9);
        book.says("- `index`: 0 for the first leaf or branch in the text, and so on");
        int[] fields = {0, 101, 2, 103};
        for (int index = 0; index < 4; index++) {
            book.is("field(0, " + index + ")", x.field(0, index), fields[index]);
        }
        book.says("Returns the path, or 100 plus the path for a branch;");
        book.is("field(1, 0)", x.field(1, 0), 104);
        book.is("field(0, 0), the branch 0", book.with("{a:{}}").field(0, 0), 100);
        book.is("field(0, 0), the leaf 0", book.with("{a:0}").field(0, 0), 0);
        LikeRecords y = Full.paths().run();
        book.is("field(5, 0)", y.field(5, 0), 150);
        book.is("field(5, 9)", y.field(5, 9), 59);
        LikeRecords z = book.with("{a:{b:{c:{d:1,e:2}},f:{}},g:{}}");
        int[] deep = {100, 101, 102, 3, 4, 105, 106, -9};
        for (int index = 0; index < 8; index++) {
            book.is("field(0, " + index + ")", z.field(0, index), deep[index]);
        }
        mostFields();
        book.says("INVALID_ARGUMENT if there is no such shape or index is negative;");
        for (int shape : NOT_THERE) {
            book.is("field(" + shape + ", 0)", x.field(shape, 0), -1);
            book.is("field(" + shape + ", 99)", x.field(shape, 99), -1);
        }
        for (int index : NEGATIVE) {
            book.is("field(0, " + index + ")", x.field(0, index), -1);
            book.is("field(2, " + index + ")", x.field(2, index), -1);
        }
        book.is("field(2, 0), one behind the last", x.field(2, 0), -1);
        book.is("field(40, 0)", full.field(40, 0), -1);
        book.is("field(0, 0) of a new object", new LikeRecords().field(0, 0), -1);
        book.says("NONE if there are not so many.");
        for (int index : new int[] {4, 5, 26, 27, 60, 65536, 1 << 30, MAX - 1, MAX}) {
            book.is("field(0, " + index + ")", x.field(0, index), -9);
        }
        book.is("field(1, 2)", x.field(1, 2), -9);
        book.is("field(0, 0) of a shape without fields", book.with("{}").field(0, 0), -9);
    }

    /** No text of 80 characters has more than 19 fields. */
    private void mostFields() {
        LikeRecords x = book.with("{a:{a:{a:{a:1}}},b:{a:{a:{a:2}}},c:{a:{a:{a:3}}},d:4,e:5,f:6,g:7,h:8,i:9,j:0}");
        int[] fields = {100, 101, 102, 3, 104, 105, 106, 7, 108, 109, 110, 11, 12, 13, 14, 15, 16, 17, 18, -9};
        for (int index = 0; index < fields.length; index++) {
            book.is("field(0, " + index + ")", x.field(0, index), fields[index]);
        }
        book.back(x, 0, "{a:{a:{a:{a:1}}},b:{a:{a:{a:2}}},c:{a:{a:{a:3}}},d:4,e:5,f:6,g:7,h:8,i:9,j:0}");
    }
}
