/** The sentences about what is kept and what could be: sizes, costs, and promises 18 to 20. */
final class SizeSentences {
    private static final int MIN = Integer.MIN_VALUE;
    private static final int MAX = Integer.MAX_VALUE;

    private final Book book;

    private SizeSentences(Book book) {
        this.book = book;
    }

    static void all(Book book) {
        SizeSentences sentences = new SizeSentences(book);
        book.section("What is kept");
        sentences.columns();
        sentences.sizes();
        sentences.costs();
        book.section("Promise 18");
        sentences.sizeWith();
        book.section("Promise 19");
        sentences.bestBound();
        book.section("Promise 20");
        sentences.like();
        sentences.likeRefused();
    }

    private static LikeRecords times(int times, String text) {
        LikeRecords x = new LikeRecords();
        for (int i = 0; i < times; i++) {
            Due.read(x, text);
        }
        return x;
    }

    // ---- What is kept

    private void columns() {
        book.says("For each common shape its fields are kept once, and for each of its leaves a column: the values of its "
            + "records at this leaf, by the numbers of the records.");
        LikeRecords x = book.with("{a:1,b:{c:2}}", "{a:3}", "{a:4,b:{c:5}}", "{a:6,b:{c:7}}");
        int[][] columns = {{1, 4, 6}, {2, 5, 7}};
        for (int leaf = 0; leaf < 2; leaf++) {
            for (int index = 0; index < 3; index++) {
                book.is("column(0, " + leaf + ", " + index + ")", x.column(0, leaf, index), columns[leaf][index]);
            }
        }
        int[] fields = {0, 101, 2, -9};
        for (int index = 0; index < 4; index++) {
            book.is("field(0, " + index + ")", x.field(0, index), fields[index]);
        }
        book.says("Rare records are kept each with its own fields and values.");
        book.is("count(5)", x.count(5), 1);
        book.is("field(1, 0)", x.field(1, 0), 0);
        book.is("value(1, 0)", x.value(1, 0), 3);
        book.back(x, 1, "{a:3}");
        book.is("column(1, 0, 0)", x.column(1, 0, 0), -2);
    }

    private void sizes() {
        book.says("The size of what is kept is the sum of these: for each record 1;");
        book.is("count(6) without records", new LikeRecords().count(6), 0);
        book.is("count(6) of a rare record", times(1, "{}").count(6), 1);
        LikeRecords x = book.with("{}", "{}", "{}");
        book.is("count(6)", x.count(6), 3 + 1);
        book.is("discard(1)", x.discard(1), 2);
        book.is("count(6), thrown away ones do not count", x.count(6), 2 + 1);
        book.is("discard(0)", x.discard(0), 1);
        book.is("discard(2)", x.discard(2), 0);
        book.is("count(6), none is left", x.count(6), 0);
        book.says("for each common shape 1 and the number of its leaves and branches, and for each of its records the "
            + "number of its leaves;");
        book.is("count(6), two with a leaf", times(2, "{a:1}").count(6), 2 + 1 + 1 + 2);
        book.is("count(6), two with a branch", times(2, "{a:{}}").count(6), 2 + 1 + 1);
        book.is("count(6), three with 2 leaves and 3 branches", times(3, "{a:1,b:{c:{d:2}},e:{}}").count(6), 3 + 1 + 5 + 3 * 2);
        book.is("count(6), 30 with 3 leaves", times(30, "{a:1,b:2,c:3}").count(6), 30 + 1 + 3 + 90);
        LikeRecords y = book.with("{a:1}", "{}");
        book.is("drop(0, 0)", y.drop(0, 0), 1);
        book.is("count(6), a shape without records", y.count(6), 2 + 1);
        book.is("setBound(1)", y.setBound(1), 1);
        book.is("count(6), a shape without records", y.count(6), 2 + 1);
        book.says("for each rare record twice the number of its leaves, and the number of its branches.");
        book.is("count(6), a leaf", times(1, "{a:1}").count(6), 1 + 2);
        book.is("count(6), a branch", times(1, "{a:{}}").count(6), 1 + 1);
        book.is("count(6), 2 leaves and 3 branches", times(1, "{a:1,b:{c:{d:2}},e:{}}").count(6), 1 + 2 * 2 + 3);
        LikeRecords z = times(9, "{a:1,b:{}}");
        book.is("setBound(10)", z.setBound(10), 0);
        book.is("count(6), nine rare ones", z.count(6), 9 + 9 * 3);
        book.is("read()", Due.read(z, "{a:1,b:{}}"), 9);
        book.is("count(6), ten common ones", z.count(6), 10 + 1 + 2 + 10);
    }

    private void costs() {
        book.says("The cost of reading a path alone is the sum of these: for each common shape in which it is a leaf "
            + "the number of its records;");
        LikeRecords x = book.with("{a:1,b:{c:2}}", "{a:3,b:{c:4}}", "{b:5,a:{}}", "{b:6,a:{}}", "{b:7,a:{}}");
        int[] costs = {2, 3, 2};
        for (int path = 0; path < 3; path++) {
            book.is("path(" + path + ", 5)", x.path(path, 5), costs[path]);
        }
        book.is("discard(0)", x.discard(0), 4);
        book.is("setBound(1)", x.setBound(1), 2);
        book.is("path(0, 5)", x.path(0, 5), 1);
        book.is("discard(1)", x.discard(1), 3);
        book.is("path(0, 5), only a branch now", x.path(0, 5), 0);
        book.is("path(1, 5)", x.path(1, 5), 3);
        book.says("for each rare record the number of its leaves and branches (whether the path is in it or not).");
        LikeRecords y = book.with("{a:1,b:{c:2}}", "{d:{}}", "{}", "{a:3,d:4}", "{a:5,d:6}");
        int[] more = {3 + 1 + 2, 3 + 1, 3 + 1, 3 + 1 + 2};
        for (int path = 0; path < 4; path++) {
            book.is("path(" + path + ", 5)", y.path(path, 5), more[path]);
        }
        book.is("setBound(3)", y.setBound(3), 0);
        for (int path = 0; path < 4; path++) {
            book.is("path(" + path + ", 5), all rare", y.path(path, 5), 3 + 1 + 2 + 2);
        }
        book.is("discard(0)", y.discard(0), 4);
        book.is("path(2, 5), it is in no record any more", y.path(2, 5), 1 + 2 + 2);
    }

    // ---- promises 18 and 19

    private void sizeWith() {
        book.says("`int sizeWith(int bound)`: Tells the size of what would be kept with a bound.");
        LikeRecords x = new LikeRecords();
        for (int record = 0; record < 10; record++) {
            Due.read(x, "{a:1,b:{c:2}}");
        }
        Due.read(x, "{d:3}");
        int common = 1 + 3 + 20;
        for (int bound = 1; bound <= 10; bound++) {
            book.is("sizeWith(" + bound + ")", x.sizeWith(bound), 11 + common + (bound == 1 ? 1 + 1 + 1 : 2));
        }
        book.is("count(7), nothing changes", x.count(7), 2);
        book.isTrue("nothing changes", Full.some().isLeftBy(y -> y.sizeWith(1)));
        book.says("- `bound`: 1 to 10");
        LikeRecords y = times(9, "{a:1}");
        book.is("sizeWith(1)", y.sizeWith(1), 9 + 1 + 1 + 9);
        book.is("sizeWith(9)", y.sizeWith(9), 9 + 1 + 1 + 9);
        book.is("sizeWith(10)", y.sizeWith(10), 9 + 18);
        book.says("Returns the size;");
        LikeRecords empty = new LikeRecords();
        for (int bound = 1; bound <= 10; bound++) {
            book.is("sizeWith(" + bound + ") of a new object", empty.sizeWith(bound), 0);
            y.setBound(bound);
            book.is("count(6) with the bound " + bound, y.count(6), y.sizeWith(bound));
        }
        book.says("INVALID_ARGUMENT if bound is out of range.");
        for (int bound : new int[] {0, -1, -2, -9, 11, 12, 256, 65536, MIN, MIN + 1, MAX}) {
            book.is("sizeWith(" + bound + ")", x.sizeWith(bound), -1);
            book.is("sizeWith(" + bound + ") of a new object", empty.sizeWith(bound), -1);
        }
    }

    private void bestBound() {
        book.says("`int bestBound()`: Finds the bound with which the size would be smallest, of several the smallest one.");
        book.is("bestBound() without records", new LikeRecords().bestBound(), 1);
        // n records with a leaf take 2 + n as a common shape and 2 n as rare ones
        book.is("bestBound(), one record", times(1, "{a:1}").bestBound(), 2);
        book.is("bestBound(), two records, all bounds alike", times(2, "{a:1}").bestBound(), 1);
        book.is("bestBound(), three records", times(3, "{a:1}").bestBound(), 1);
        // n records without fields take 1 as a common shape and 0 as rare ones
        for (int records = 1; records <= 9; records++) {
            book.is("bestBound(), " + records + " empty ones", times(records, "{}").bestBound(), records + 1);
        }
        book.is("bestBound(), ten empty ones, no bound is more than 10", times(10, "{}").bestBound(), 1);
        // the four with a leaf take 6 as a common shape and 8 as rare ones, the three without fields 1 and 0
        LikeRecords x = book.with("{a:1}", "{a:1}", "{a:1}", "{a:1}", "{b:{}}", "{}", "{}", "{}", "{c:{}}");
        book.is("bestBound()", x.bestBound(), 4);
        book.is("discard(0)", x.discard(0), 8);
        book.is("bestBound(), three with a leaf", x.bestBound(), 2);
        book.isTrue("nothing changes", Full.some().isLeftBy(LikeRecords::bestBound));
        book.says("Returns the bound.");
        LikeRecords y = times(5, "{a:1}");
        for (int bound = 1; bound <= 10; bound++) {
            y.setBound(bound);
            book.is("bestBound(), whatever the bound is", y.bestBound(), 1);
            book.is("count(7)", y.count(7), bound);
        }
    }

    // ---- promise 20

    private void like() {
        book.says("`int like(int record)`: Finds the record that is most like a record: the other one that has most leaves in common "
            + "with it (the same paths, whatever their values), of several the one with the smallest number.");
        LikeRecords x = book.with("{a:1,b:2,c:{d:3}}", "{e:1}", "{c:{d:9},b:8}", "{a:5,b:6,c:{d:7},e:8}", "{a:1,b:2,c:3}");
        int[] likes = {3, 3, 0, 0, 0};
        for (int record = 0; record < 5; record++) {
            book.is("like(" + record + ")", x.like(record), likes[record]);
        }
        book.is("discard(3)", x.discard(3), 4);
        book.is("like(0), of 2 and 4 with two each", x.like(0), 2);
        book.is("like(1), of several with none", x.like(1), 0);
        LikeRecords y = book.with("{a:{b:1}}", "{a:{}}", "{b:1}", "{a:1}", "{a:{b:9}}");
        book.is("like(0), the path and not the letter", y.like(0), 4);
        book.is("like(1), branches do not count", y.like(1), 0);
        book.is("like(3), a leaf is no branch", y.like(3), 0);
        LikeRecords branches = book.with("{z:1}", "{b:{},c:{}}", "{a:1,b:{},c:{}}", "{a:5}", "{c:{},b:{}}");
        book.is("like(2), a leaf is more than two branches", branches.like(2), 3);
        book.is("like(4), branches are no leaves", branches.like(4), 0);
        LikeRecords z = book.with("{a:1}", "{a:1}", "{a:1}");
        book.is("like(0), the same with the smallest number", z.like(0), 1);
        book.is("like(1)", z.like(1), 0);
        book.is("like(2)", z.like(2), 0);
        book.is("discard(0)", z.discard(0), 2);
        book.is("like(2), thrown away ones are no others", z.like(2), 1);
        book.is("drop(1, 0)", z.drop(1, 0), 1);
        book.is("like(2), the only other one, with none", z.like(2), 1);
        book.isTrue("nothing changes", Full.some().isLeftBy(w -> w.like(0)));
        book.says("- `record`: a record");
        LikeRecords full = Full.records().run();
        for (int record = 0; record < 30; record++) {
            book.is("like(" + record + ")", full.like(record), record == 0 ? 1 : 0);
        }
        book.says("Returns the record;");
        LikeRecords last = times(29, "{}");
        book.is("read()", Due.read(last, "{a:1}"), 29);
        book.is("discard(0)", last.discard(0), 29);
        book.is("like(29)", last.like(29), 1);
        book.is("like(1)", last.like(1), 2);
        LikeRecords first = book.with("{a:1}", "{}", "{b:2,a:3}");
        book.is("like(2), the record 0", first.like(2), 0);
        book.is("like(0), the last one", first.like(0), 2);
    }

    private void likeRefused() {
        book.says("INVALID_ARGUMENT if there is no such record;");
        LikeRecords x = Full.some().run();
        for (int record : new int[] {-1, -2, -9, 4, 29, 30, 100, 65536, 1 << 30, MIN, MIN + 1, MAX}) {
            book.is("like(" + record + ")", x.like(record), -1);
        }
        book.is("like(1), thrown away", x.like(1), -1);
        book.is("like(30)", Full.records().run().like(30), -1);
        book.is("like(0) of a new object", new LikeRecords().like(0), -1);
        book.says("NONE if there is no other one.");
        LikeRecords y = book.with("{a:1}");
        book.is("like(0)", y.like(0), -9);
        book.is("like(1)", y.like(1), -1);
        book.is("read()", Due.read(y, "{b:1}"), 1);
        book.is("like(0), one with no leaf in common", y.like(0), 1);
        book.is("discard(0)", y.discard(0), 1);
        book.is("like(1), the other one was thrown away", y.like(1), -9);
        book.is("undo()", y.undo(), 2);
        book.is("like(1), it is back", y.like(1), 0);
    }
}
