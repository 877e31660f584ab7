/** The sentences about actions and errors: undo, the error codes, and promises 5 to 9. */
final class ActionSentences {
    private static final int MIN = Integer.MIN_VALUE;
    private static final int MAX = Integer.MAX_VALUE;
    /** Neither a record nor a path nor a shape of Full.some(), nor of any object. */
    private static final int[] NOT_THERE = {-1, -2, -9, -10, 60, 100, 101, 65536, 1 << 30, MIN, MIN + 1, MAX};
    private static final int[] NO_BOUNDS = {0, -1, -2, 11, 12, 257, 65537, MIN, MIN + 1, MAX};

    private final Book book;

    private ActionSentences(Book book) {
        this.book = book;
    }

    static void all(Book book) {
        ActionSentences sentences = new ActionSentences(book);
        book.section("Undo");
        sentences.history();
        sentences.actions();
        sentences.latestState();
        book.section("Errors");
        sentences.refusedCalls();
        sentences.severalErrors();
        sentences.noneIsNoError();
        sentences.constants();
        book.section("Promise 5");
        sentences.discard();
        book.section("Promise 6");
        sentences.change();
        sentences.changeRefused();
        book.section("Promise 7");
        sentences.drop();
        sentences.dropRefused();
        book.section("Promise 8");
        sentences.setBound();
        book.section("Promise 9");
        sentences.undo();
    }

    // ---- Undo

    private void history() {
        book.says("A history of at most 5 states is kept;");
        LikeRecords x = new LikeRecords();
        book.is("count(8)", x.count(8), 0);
        for (int made = 1; made <= 12; made++) {
            book.is("setBound(3)", x.setBound(3), 0);
            book.is("count(8)", x.count(8), Math.min(made, 5));
        }
        book.says("a state is everything but the text and the history.");
        LikeRecords y = book.with("{a:1}");
        Due.append(y, "{a:2");
        book.is("undo()", y.undo(), 0);
        book.is("count(9), the text stays", y.count(9), 4);
        book.is("count(1)", y.count(1), 0);
        book.is("append(125)", y.append('}'), 5);
        book.is("read()", y.read(), 0);
        book.is("count(8), the history stays", y.count(8), 1);
        LikeRecords z = book.with("{a:1}", "{a:2}");
        Due.append(z, "{z:");
        z.clearText();
        book.is("undo()", z.undo(), 1);
        book.is("count(9)", z.count(9), 0);
    }

    private void actions() {
        book.says("Every successful call of a method that is called an action records the state before it (also if "
            + "nothing changes by it);");
        LikeRecords x = book.with("{a:1,b:{c:2}}");
        book.is("count(8) behind read()", x.count(8), 1);
        book.is("change(0, 0, 1) to the same", x.change(0, 0, 1), 1);
        book.is("count(8) behind change()", x.count(8), 2);
        book.is("setBound(2) to the same", x.setBound(2), 0);
        book.is("count(8) behind setBound()", x.count(8), 3);
        book.is("drop(0, 2)", x.drop(0, 2), 1);
        book.is("count(8) behind drop()", x.count(8), 4);
        book.is("discard(0)", x.discard(0), 0);
        book.is("count(8) behind discard()", x.count(8), 5);
        book.is("undo()", x.undo(), 4);
        book.is("count(8) behind undo()", x.count(8), 4);
        Due.append(x, "{}");
        x.clearText();
        book.is("count(8) behind append() and clearText()", x.count(8), 4);
        book.is("record(0, 0)", x.record(0, 0), 1);
        book.is("undo() of drop()", x.undo(), 3);
        book.is("record(0, 0)", x.record(0, 0), 0);
        book.is("undo() of setBound()", x.undo(), 2);
        book.is("undo() of change()", x.undo(), 1);
        book.is("value(0, 0)", x.value(0, 0), 1);
        book.is("undo() of read()", x.undo(), 0);
        book.is("count(1)", x.count(1), 0);
        book.is("undo()", x.undo(), -2);
        for (Script.Call call : new Script.Call[] {y -> y.change(0, 0, 1), y -> y.setBound(2)}) {
            LikeRecords y = book.with("{a:1}");
            call.on(y);
            book.is("undo() where nothing changed", y.undo(), 1);
            book.is("count(1)", y.count(1), 1);
        }
    }

    private void latestState() {
        book.says("when a sixth one is recorded, the oldest one is dropped.");
        LikeRecords x = book.with("{a:1}");
        for (int value = 2; value <= 6; value++) {
            x.change(0, 0, value);
        }
        book.is("count(8)", x.count(8), 5);
        for (int left = 4; left >= 0; left--) {
            book.is("undo()", x.undo(), left);
            book.is("value(0, 0)", x.value(0, 0), left + 1);
        }
        book.is("undo(), the state without records was dropped", x.undo(), -2);
        book.is("count(1)", x.count(1), 1);
        LikeRecords y = book.with("{a:1}");
        for (int value = 2; value <= 20; value++) {
            y.change(0, 0, value);
        }
        for (int left = 4; left >= 0; left--) {
            book.is("undo()", y.undo(), left);
            book.is("value(0, 0)", y.value(0, 0), left + 15);
        }
        book.says("undo() removes the latest state from the history and restores it.");
        LikeRecords z = book.with("{a:1}", "{b:2}");
        z.change(0, 0, 5);
        book.is("undo()", z.undo(), 2);
        book.is("value(0, 0)", z.value(0, 0), 1);
        z.change(0, 0, 6);
        z.change(0, 0, 7);
        book.is("undo()", z.undo(), 3);
        book.is("value(0, 0)", z.value(0, 0), 6);
        book.is("undo()", z.undo(), 2);
        book.is("value(0, 0)", z.value(0, 0), 1);
        book.is("undo()", z.undo(), 1);
        book.is("record(1, 0)", z.record(1, 0), -1);
    }

    // ---- Errors

    private void refused(String name, Script script, int wanted, Script.Call call) {
        book.is(name, call.on(script.run()), wanted);
        book.isTrue(name + " changes nothing", script.isLeftBy(call));
    }

    private void refusedCalls() {
        book.says("A call that returns an error code changes nothing.");
        Script some = Full.some();
        refused("append(0)", some, -1, x -> x.append(0));
        refused("append(256)", some, -1, x -> x.append(256));
        refused("append(120) to a full text", Full.some().append("x".repeat(78)), -3, x -> x.append('x'));
        refused("read() of {z", some, -1002, LikeRecords::read);
        refused("read() that fails behind new fields", Full.some().append(":1,y:{x:2,w:3},v:{}"), -1021, LikeRecords::read);
        refused("read() of a 31st record", Full.records().append("{b:1}"), -3, LikeRecords::read);
        refused("read() of a 61st path", Full.paths().append("{b:{},y:{z:1}}"), -3, LikeRecords::read);
        refused("read() of a 41st shape", Full.shapes().append("{k:{a:1}}"), -3, LikeRecords::read);
        refused("drop(4, 9) into a 41st shape", Full.shapes(), -3, x -> x.drop(4, 9));
        refused("undo()", new Script().append("{}"), -2, LikeRecords::undo);
        refused("discard(1)", some, -1, x -> x.discard(1));
        refused("discard(4)", some, -1, x -> x.discard(4));
        refused("change(1, 4, 7)", some, -1, x -> x.change(1, 4, 7));
        refused("change(0, 6, 7)", some, -1, x -> x.change(0, 6, 7));
        refused("change(0, 0, 1000)", some, -1, x -> x.change(0, 0, 1000));
        refused("change(0, 0, -1)", some, -1, x -> x.change(0, 0, -1));
        refused("change(0, 1, 7)", some, -2, x -> x.change(0, 1, 7));
        refused("change(0, 5, 7)", some, -2, x -> x.change(0, 5, 7));
        refused("drop(1, 4)", some, -1, x -> x.drop(1, 4));
        refused("drop(0, 6)", some, -1, x -> x.drop(0, 6));
        refused("drop(0, 4)", some, -2, x -> x.drop(0, 4));
        refused("setBound(0)", some, -1, x -> x.setBound(0));
        refused("setBound(11)", some, -1, x -> x.setBound(11));
        refused("count(10)", some, -1, x -> x.count(10));
        refused("record(1, 0)", some, -1, x -> x.record(1, 0));
        refused("character(0, -1)", some, -1, x -> x.character(0, -1));
        refused("value(0, 6)", some, -1, x -> x.value(0, 6));
        refused("path(6, 0)", some, -1, x -> x.path(6, 0));
        refused("shape(2, 0)", some, -1, x -> x.shape(2, 0));
        refused("column(1, 0, 0)", some, -2, x -> x.column(1, 0, 0));
        refused("column(0, -1, 0)", some, -1, x -> x.column(0, -1, 0));
        refused("field(0, -1)", some, -1, x -> x.field(0, -1));
        refused("sizeWith(0)", some, -1, x -> x.sizeWith(0));
        refused("like(1)", some, -1, x -> x.like(1));
    }

    private void severalErrors() {
        book.says("If several error conditions apply, the method returns the one that its description lists first;");
        LikeRecords full = Full.some().append("x".repeat(78)).run();
        book.is("append(0) to a full text", full.append(0), -1);
        book.is("append(256) to a full text", full.append(256), -1);
        book.is("read() that fails as 31st", Full.records().append("{b:1").run().read(), -1004);
        book.is("read() that fails behind a 61st path", Full.paths().append("{z:1").run().read(), -1004);
        book.is("read() that fails with a 41st shape", Full.shapes().append("{}}").run().read(), -1002);
        LikeRecords x = Full.some().run();
        book.is("change(1, 4, 7): no record, no leaf", x.change(1, 4, 7), -1);
        book.is("change(0, 1, 1000): no leaf, no value", x.change(0, 1, 1000), -1);
        book.is("change(0, 5, -1): no leaf, no value", x.change(0, 5, -1), -1);
        book.is("drop(1, 5): no record, no field", x.drop(1, 5), -1);
        LikeRecords y = Full.shapes().run();
        book.is("drop(5, 9): no record, a 41st shape", y.drop(5, 9), -1);
        book.is("drop(4, 10): no path, a 41st shape", y.drop(4, 10), -1);
        book.is("drop(4, 4): no field, no room for shapes", y.drop(4, 4), -2);
        book.is("column(2, 0, 0): no shape", x.column(2, 0, 0), -1);
        book.is("column(1, -1, 0): not common, no leaf", x.column(1, -1, 0), -1);
        book.is("column(1, 0, -1): not common, no index", x.column(1, 0, -1), -1);
    }

    private void noneIsNoError() {
        book.says("NONE is no error, and it is returned only if no error condition applies.");
        LikeRecords x = Full.some().run();
        book.is("character(0, 99)", x.character(0, 99), -9);
        book.is("character(1, 99): no record", x.character(1, 99), -1);
        book.is("value(0, 4)", x.value(0, 4), -9);
        book.is("value(1, 0): no record", x.value(1, 0), -1);
        book.is("value(0, 6): no path", x.value(0, 6), -1);
        book.is("path(0, 1)", x.path(0, 1), -9);
        book.is("path(6, 1): no path", x.path(6, 1), -1);
        book.is("column(0, 99, 0)", x.column(0, 99, 0), -9);
        book.is("column(0, 0, 99)", x.column(0, 0, 99), -9);
        book.is("column(0, 99, -1)", x.column(0, 99, -1), -1);
        book.is("column(0, -1, 99)", x.column(0, -1, 99), -1);
        book.is("column(1, 99, 0): not common", x.column(1, 99, 0), -2);
        book.is("column(1, 0, 99): not common", x.column(1, 0, 99), -2);
        book.is("column(2, 99, 99): no shape", x.column(2, 99, 99), -1);
        book.is("field(0, 99)", x.field(0, 99), -9);
        book.is("field(2, 99): no shape", x.field(2, 99), -1);
        book.is("like(0)", book.with("{}").like(0), -9);
        book.is("like(1): no record", book.with("{}").like(1), -1);
        book.isTrue("character(0, 99) changes nothing", Full.some().isLeftBy(y -> y.character(0, 99)));
        book.isTrue("value(0, 4) changes nothing", Full.some().isLeftBy(y -> y.value(0, 4)));
        book.isTrue("field(0, 99) changes nothing", Full.some().isLeftBy(y -> y.field(0, 99)));
    }

    private void constants() {
        book.says("The constants: `INVALID_ARGUMENT = -1`: An argument is out of range, or names something that does "
            + "not exist.");
        book.is("INVALID_ARGUMENT", LikeRecords.INVALID_ARGUMENT, -1);
        LikeRecords x = new LikeRecords();
        book.is("discard(0)", x.discard(0), LikeRecords.INVALID_ARGUMENT);
        book.is("count(10)", x.count(10), LikeRecords.INVALID_ARGUMENT);
        book.says("`ILLEGAL_STATE = -2`: The call is not possible in the present state.");
        book.is("ILLEGAL_STATE", LikeRecords.ILLEGAL_STATE, -2);
        book.is("undo()", x.undo(), LikeRecords.ILLEGAL_STATE);
        book.says("`CAPACITY_EXCEEDED = -3`: There is no room.");
        book.is("CAPACITY_EXCEEDED", LikeRecords.CAPACITY_EXCEEDED, -3);
        book.is("read()", Full.records().append("{}").run().read(), LikeRecords.CAPACITY_EXCEEDED);
        book.says("`NONE = -9`: There is no such value.");
        book.is("NONE", LikeRecords.NONE, -9);
        book.is("like(0)", book.with("{}").like(0), LikeRecords.NONE);
    }

    // ---- promise 5

    private void discard() {
        book.says("`int discard(int record)`: Throws a record away.");
        LikeRecords x = book.with("{a:1}", "{a:2}", "{a:4}");
        x.discard(1);
        book.is("record(1, 0)", x.record(1, 0), -1);
        book.is("path(0, 4)", x.path(0, 4), 5);
        book.is("shape(0, 0)", x.shape(0, 0), 2);
        book.is("count(1), the number of records that were read", x.count(1), 3);
        book.is("count(2), paths stay known", x.count(2), 1);
        book.says("This is an action.");
        book.is("count(8)", x.count(8), 4);
        book.is("undo()", x.undo(), 3);
        book.is("value(1, 0)", x.value(1, 0), 2);
        book.says("- `record`: a record");
        LikeRecords y = Full.records().run();
        for (int record = 0; record < 30; record++) {
            book.isTrue("discard(" + record + ") is taken", y.discard(record) >= 0);
        }
        book.says("Returns the number of records that are left;");
        LikeRecords z = Full.records().run();
        for (int left = 29; left >= 0; left--) {
            book.is("discard(" + left + ")", z.discard(left), left);
        }
        book.says("INVALID_ARGUMENT if there is no such record.");
        for (int record : NOT_THERE) {
            book.is("discard(" + record + ")", x.discard(record), -1);
            book.is("discard(" + record + ") where none is left", z.discard(record), -1);
        }
        book.is("discard(3), one behind the last", x.discard(3), -1);
        book.is("discard(0), thrown away", z.discard(0), -1);
        book.is("discard(29), thrown away", z.discard(29), -1);
        book.is("discard(0) of a new object", new LikeRecords().discard(0), -1);
        book.is("discard(30)", y.discard(30), -1);
    }

    // ---- promise 6

    private void change() {
        book.says("`int change(int record, int path, int value)`: Changes a value.");
        LikeRecords x = book.with("{a:1,b:{c:2}}", "{a:3,b:{c:4}}");
        x.change(1, 2, 77);
        book.back(x, 0, "{a:1,b:{c:2}}");
        book.back(x, 1, "{a:3,b:{c:77}}");
        book.is("path(2, 4)", x.path(2, 4), 79);
        book.is("column(0, 1, 1)", x.column(0, 1, 1), 77);
        book.is("record(1, 0), the shape stays", x.record(1, 0), 0);
        book.says("This is an action.");
        book.is("count(8)", x.count(8), 3);
        book.is("undo()", x.undo(), 2);
        book.is("value(1, 2)", x.value(1, 2), 4);
        book.says("- `record`: a record");
        LikeRecords y = Full.records().run();
        book.is("change(29, 0, 8)", y.change(29, 0, 8), 7);
        LikeRecords z = book.with("{a:1}");
        book.is("change(0, 0, 8)", z.change(0, 0, 8), 1);
        book.says("- `path`: a path");
        LikeRecords w = Full.paths().run();
        book.is("change(5, 59, 8)", w.change(5, 59, 8), 9);
        book.is("value(5, 59)", w.value(5, 59), 8);
        book.is("change(0, 1, 8)", w.change(0, 1, 8), 1);
        book.says("- `value`: 0 to 999");
        for (int value : new int[] {0, 1, 9, 10, 99, 100, 998, 999}) {
            book.isTrue("change(0, 0, " + value + ") is taken", z.change(0, 0, value) >= 0);
            book.is("value(0, 0)", z.value(0, 0), value);
            book.back(z, 0, "{a:" + value + "}");
        }
        book.says("Returns the previous value;");
        book.is("change(0, 0, 0)", z.change(0, 0, 0), 999);
        book.is("change(0, 0, 0)", z.change(0, 0, 0), 0);
        book.is("change(0, 0, 5)", z.change(0, 0, 5), 0);
        book.is("undo()", z.undo(), 4);
        book.is("change(0, 0, 6), the value that was restored", z.change(0, 0, 6), 0);
    }

    private void changeRefused() {
        book.says("INVALID_ARGUMENT if an argument is out of range;");
        LikeRecords x = Full.some().run();
        for (int wrong : NOT_THERE) {
            book.is("change(" + wrong + ", 0, 1)", x.change(wrong, 0, 1), -1);
            book.is("change(0, " + wrong + ", 1)", x.change(0, wrong, 1), -1);
        }
        for (int wrong : new int[] {-1, -9, 1000, 1001, 65536, MIN, MAX}) {
            book.is("change(0, 0, " + wrong + ")", x.change(0, 0, wrong), -1);
        }
        book.is("change(4, 0, 1), one behind the last", x.change(4, 0, 1), -1);
        book.is("change(1, 4, 1), thrown away", x.change(1, 4, 1), -1);
        book.is("change(0, 6, 1), one behind the last path", x.change(0, 6, 1), -1);
        book.is("change(30, 0, 1)", Full.records().run().change(30, 0, 1), -1);
        book.is("change(0, 60, 1)", Full.paths().run().change(0, 60, 1), -1);
        book.is("change(0, 0, 0) of a new object", new LikeRecords().change(0, 0, 0), -1);
        LikeRecords y = book.with("{a:1}", "{b:2}");
        book.is("undo()", y.undo(), 1);
        book.is("change(0, 1, 1), a path that is forgotten", y.change(0, 1, 1), -1);
        book.says("ILLEGAL_STATE if the path is no leaf of the record.");
        book.is("change(0, 1, 1), a branch", x.change(0, 1, 1), -2);
        book.is("change(0, 3, 1), an empty branch", x.change(0, 3, 1), -2);
        book.is("change(0, 4, 1), not in the record", x.change(0, 4, 1), -2);
        book.is("change(0, 5, 1), not in the record", x.change(0, 5, 1), -2);
        book.is("change(3, 0, 1), not in the record", x.change(3, 0, 1), -2);
        book.is("drop(0, 0)", x.drop(0, 0), 2);
        book.is("change(0, 0, 1), dropped", x.change(0, 0, 1), -2);
        LikeRecords z = book.with("{a:1}", "{a:{}}");
        book.is("change(1, 0, 1), a leaf of another record", z.change(1, 0, 1), -2);
    }

    // ---- promise 7

    private void drop() {
        book.says("`int drop(int record, int path)`: Drops a field of a record, with all that is in it if it is a branch.");
        LikeRecords x = book.with("{a:1,b:{c:2,d:{e:3,f:{}},g:4},h:5}", "{a:6,b:{c:7,d:{e:8,f:{}},g:9},h:0}");
        x.drop(0, 0);
        book.back(x, 0, "{b:{c:2,d:{e:3,f:{}},g:4},h:5}");
        x.drop(0, 3);
        book.back(x, 0, "{b:{c:2,g:4},h:5}");
        x.drop(0, 6);
        book.back(x, 0, "{b:{c:2},h:5}");
        x.drop(0, 7);
        book.back(x, 0, "{b:{c:2}}");
        x.drop(0, 2);
        book.back(x, 0, "{b:{}}");
        x.drop(0, 1);
        book.back(x, 0, "{}");
        x.drop(1, 1);
        book.back(x, 1, "{a:6,h:0}");
        x.drop(1, 7);
        book.back(x, 1, "{a:6}");
        x.drop(1, 0);
        book.back(x, 1, "{}");
        book.is("count(2), paths stay known", x.count(2), 8);
        LikeRecords y = book.with("{a:{a:{a:{a:1,b:2},b:3},b:4},b:5}");
        y.drop(0, 2);
        book.back(y, 0, "{a:{a:{b:3},b:4},b:5}");
        y.drop(0, 0);
        book.back(y, 0, "{b:5}");
        LikeRecords deepest = book.with("{a:{a:{a:{a:1,b:2},b:3},b:4},b:5}");
        deepest.drop(0, 0);
        book.back(deepest, 0, "{b:5}");
        book.is("value(0, 3)", deepest.value(0, 3), -9);
        book.is("value(0, 7)", deepest.value(0, 7), 5);
        book.says("This is an action.");
        book.is("count(8)", y.count(8), 3);
        book.is("undo()", y.undo(), 2);
        book.back(y, 0, "{a:{a:{b:3},b:4},b:5}");
        book.says("- `record`: a record");
        book.is("drop(29, 0)", Full.records().run().drop(29, 0), 0);
        book.says("- `path`: a path");
        LikeRecords z = Full.paths().run();
        book.is("drop(5, 59), a leaf", z.drop(5, 59), 6);
        book.is("drop(5, 50), a branch", z.drop(5, 50), 7);
        book.is("drop(0, 0), a branch", z.drop(0, 0), 7);
        book.back(z, 0, "{}");
        book.says("Returns the shape of the record then;");
        LikeRecords w = book.with("{a:1,b:2}", "{b:3}", "{a:{b:4},b:5}", "{}");
        book.is("drop(0, 0), the shape of another record", w.drop(0, 0), 1);
        book.is("drop(2, 0), the same", w.drop(2, 0), 1);
        book.is("drop(2, 1)", w.drop(2, 1), 3);
        book.is("record(2, 0)", w.record(2, 0), 3);
        book.is("undo()", w.undo(), 4);
        book.is("undo()", w.undo(), 3);
        book.is("drop(2, 1), a new one", w.drop(2, 1), 4);
        book.is("record(2, 0)", w.record(2, 0), 4);
        book.is("shape(4, 0)", w.shape(4, 0), 1);
    }

    private void dropRefused() {
        book.says("INVALID_ARGUMENT if there is no such record or no such path;");
        LikeRecords x = Full.some().run();
        for (int wrong : NOT_THERE) {
            book.is("drop(" + wrong + ", 0)", x.drop(wrong, 0), -1);
            book.is("drop(0, " + wrong + ")", x.drop(0, wrong), -1);
        }
        book.is("drop(4, 0), one behind the last", x.drop(4, 0), -1);
        book.is("drop(1, 4), thrown away", x.drop(1, 4), -1);
        book.is("drop(0, 6), one behind the last path", x.drop(0, 6), -1);
        book.is("drop(30, 0)", Full.records().run().drop(30, 0), -1);
        book.is("drop(0, 60)", Full.paths().run().drop(0, 60), -1);
        book.is("drop(0, 0) of a new object", new LikeRecords().drop(0, 0), -1);
        book.says("ILLEGAL_STATE if the path is neither a leaf nor a branch of the record;");
        book.is("drop(0, 4)", x.drop(0, 4), -2);
        book.is("drop(0, 5)", x.drop(0, 5), -2);
        book.is("drop(3, 1)", x.drop(3, 1), -2);
        book.is("drop(0, 1)", x.drop(0, 1), 2);
        book.is("drop(0, 1), dropped", x.drop(0, 1), -2);
        book.is("drop(0, 2), dropped with its branch", x.drop(0, 2), -2);
        book.is("drop(0, 3), dropped with its branch", x.drop(0, 3), -2);
        book.says("CAPACITY_EXCEEDED if more than 40 shapes would be known.");
        LikeRecords y = Full.shapes().run();
        book.is("count(3)", y.count(3), 40);
        book.is("drop(4, 9) into a 41st shape", y.drop(4, 9), -3);
        book.back(y, 4, "{a:0,b:1,c:2,d:3,h:7,i:8,j:9}");
        book.is("drop(4, 3) into a known shape", y.drop(4, 3), 31);
        book.is("undo()", y.undo(), 4);
        book.is("undo()", y.undo(), 3);
        book.is("drop(4, 9) into a 40th shape", y.drop(4, 9), 39);
        book.is("count(3)", y.count(3), 40);
        book.is("drop(4, 6) into a 41st shape", y.drop(4, 6), -3);
    }

    // ---- promises 8 and 9

    private void setBound() {
        book.says("`int setBound(int bound)`: Sets the bound.");
        LikeRecords x = book.with("{a:1}", "{a:2}", "{a:3}", "{b:1}", "{b:2}", "{}");
        for (int bound = 10; bound >= 1; bound--) {
            x.setBound(bound);
            book.is("count(7)", x.count(7), bound);
        }
        book.says("This is an action.");
        book.is("count(8)", x.count(8), 5);
        book.is("undo()", x.undo(), 4);
        book.is("count(7)", x.count(7), 2);
        book.says("- `bound`: 1 to 10");
        for (int bound = 1; bound <= 10; bound++) {
            book.isTrue("setBound(" + bound + ") is taken", x.setBound(bound) >= 0);
        }
        book.says("Returns the number of common shapes then;");
        int[] common = {3, 2, 1, 0, 0, 0, 0, 0, 0, 0};
        for (int bound = 1; bound <= 10; bound++) {
            book.is("setBound(" + bound + ")", x.setBound(bound), common[bound - 1]);
        }
        book.is("setBound(1) of a new object", new LikeRecords().setBound(1), 0);
        LikeRecords y = book.with("{a:1}");
        y.drop(0, 0);
        book.is("setBound(1), a shape without records is not common", y.setBound(1), 1);
        LikeRecords z = Full.records().run();
        book.is("setBound(10)", z.setBound(10), 1);
        book.says("INVALID_ARGUMENT if bound is out of range.");
        for (int bound : NO_BOUNDS) {
            book.is("setBound(" + bound + ")", x.setBound(bound), -1);
        }
        book.is("count(7)", x.count(7), 10);
    }

    private void undo() {
        book.says("`int undo()`: Removes the latest state from the history and restores it.");
        Script few = new Script().read("{a:1}", "{b:{c:2}}", "{}", "{}");
        Script[] before = {Full.some(), few, Full.shapes().then(x -> x.discard(0))};
        for (Script script : before) {
            Script there = script.then(LikeRecords::clearText).then(LikeRecords::undo).then(LikeRecords::undo);
            book.isTrue("the history has room", there.run().count(8) < 5);
            undone("read() of {}", there, there.copy().read("{}"));
            undone("read() of new paths", there, there.copy().read("{k:1,l:{m:2}}"));
            undone("change(3, 5, 9)", there, there.copy().then(x -> x.change(3, 5, 9)));
            undone("change(0, 0, 9)", there, there.copy().then(x -> x.change(0, 0, 9)));
            undone("drop(0, 0)", there, there.copy().then(x -> x.drop(0, 0)));
            undone("drop(0, 1)", there, there.copy().then(x -> x.drop(0, 1)));
            undone("discard(0)", there, there.copy().then(x -> x.discard(0)));
            undone("discard(3)", there, there.copy().then(x -> x.discard(3)));
            undone("setBound(1)", there, there.copy().then(x -> x.setBound(1)));
        }
        book.says("Returns the number of states that are left in the history;");
        LikeRecords x = book.with("{}", "{}", "{}", "{}", "{}", "{}", "{}");
        for (int left = 4; left >= 0; left--) {
            book.is("undo()", x.undo(), left);
            book.is("count(8)", x.count(8), left);
        }
        book.says("ILLEGAL_STATE if it is empty.");
        book.is("undo()", x.undo(), -2);
        book.is("undo() again", x.undo(), -2);
        book.is("count(1)", x.count(1), 2);
        book.is("undo() of a new object", new LikeRecords().undo(), -2);
        LikeRecords y = new LikeRecords();
        Due.append(y, "{}");
        book.is("undo() before any action", y.undo(), -2);
        book.is("read()", y.read(), 0);
        book.is("undo()", y.undo(), 0);
        book.is("undo()", y.undo(), -2);
    }

    /** Behind undo(), if there was an action, all looks answer as before. */
    private void undone(String name, Script before, Script behind) {
        if (behind.run().count(8) > before.run().count(8)) {
            behind.then(LikeRecords::undo);
        }
        book.isTrue(name + " and undo() leave all as it was", Script.isSame(before, behind));
    }
}
