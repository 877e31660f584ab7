/** Each promise of the document by ordinary arguments, by the edges that the document names, and by wrong ones. */
public final class PromisesTest {
    private static final int MIN = Integer.MIN_VALUE;
    private static final int MAX = Integer.MAX_VALUE;

    private static final Due DUE = new Due();

    public static void main(String[] args) {
        constants();
        newObject();
        append();
        clearText();
        readNumbers();
        readFailures();
        readLengths();
        readRecordsCapacity();
        readPathsCapacity();
        shapesCapacity();
        discard();
        change();
        drop();
        dropBranches();
        setBound();
        undo();
        undoForgets();
        history();
        count();
        record();
        character();
        longestText();
        value();
        path();
        shape();
        column();
        field();
        sizeWith();
        bestBound();
        like();
        DUE.end();
    }

    private static LikeRecords with(String... texts) {
        LikeRecords x = new LikeRecords();
        for (int i = 0; i < texts.length; i++) {
            DUE.is("read() of " + texts[i], Due.read(x, texts[i]), i);
        }
        return x;
    }

    private static void back(LikeRecords x, int record, String due) {
        String got = Due.back(x, record);
        DUE.is("text of " + record + ": " + got + ", due is " + due + ": ", got.equals(due) ? 1 : 0, 1);
        DUE.is("record(" + record + ", 3)", x.record(record, 3), due.length());
    }

    private static void constants() {
        DUE.part("constants");
        DUE.is("INVALID_ARGUMENT", LikeRecords.INVALID_ARGUMENT, -1);
        DUE.is("ILLEGAL_STATE", LikeRecords.ILLEGAL_STATE, -2);
        DUE.is("CAPACITY_EXCEEDED", LikeRecords.CAPACITY_EXCEEDED, -3);
        DUE.is("NONE", LikeRecords.NONE, -9);
    }

    private static void newObject() {
        DUE.part("promise 1");
        LikeRecords x = new LikeRecords();
        for (int what = 0; what <= 9; what++) {
            DUE.is("count(" + what + ")", x.count(what), what == 7 ? 2 : 0);
        }
        DUE.is("record(0, 0)", x.record(0, 0), -1);
        DUE.is("path(0, 0)", x.path(0, 0), -1);
        DUE.is("shape(0, 0)", x.shape(0, 0), -1);
        DUE.is("undo()", x.undo(), -2);
        DUE.is("clearText()", x.clearText(), 0);
        LikeRecords other = with("{a:1}");
        DUE.is("count(0) of another object", x.count(0), 0);
        DUE.is("count(0)", other.count(0), 1);
    }

    private static void append() {
        DUE.part("promise 2");
        LikeRecords x = new LikeRecords();
        for (int wrong : new int[] {0, -1, 256, MIN, MAX}) {
            DUE.is("append(" + wrong + ")", x.append(wrong), -1);
        }
        DUE.is("append(1)", x.append(1), 1);
        DUE.is("append(255)", x.append(255), 2);
        for (int length = 3; length <= 80; length++) {
            DUE.is("append(32)", x.append(' '), length);
        }
        DUE.is("append(32) as 81st", x.append(' '), -3);
        DUE.is("append(0) as 81st", x.append(0), -1);
        DUE.is("append(256) as 81st", x.append(256), -1);
        DUE.is("count(9)", x.count(9), 80);
        DUE.is("count(8)", x.count(8), 0);
    }

    private static void clearText() {
        DUE.part("promise 3");
        LikeRecords x = new LikeRecords();
        Due.append(x, "{a:1}");
        DUE.is("clearText()", x.clearText(), 5);
        DUE.is("clearText()", x.clearText(), 0);
        DUE.is("append('{')", x.append('{'), 1);
        DUE.is("append('}')", x.append('}'), 2);
        DUE.is("read()", x.read(), 0);
        back(x, 0, "{}");
        DUE.is("clearText()", x.clearText(), 0);
        DUE.is("count(8)", x.count(8), 1);
    }

    private static void readNumbers() {
        DUE.part("promise 4, records");
        LikeRecords x = new LikeRecords();
        DUE.is("read()", Due.read(x, "  { a : 10 , b : { c : { } , d : 999 } }  "), 0);
        DUE.is("count(9)", x.count(9), 0);
        DUE.is("count(8)", x.count(8), 1);
        back(x, 0, "{a:10,b:{c:{},d:999}}");
        DUE.is("count(2)", x.count(2), 4);
        DUE.is("read()", Due.read(x, "{b:{a:0,d:{c:7}},e:3}"), 1);
        int[] outers = {-9, -9, 1, 1, 1, 3, -9};
        String names = "abcdace";
        DUE.is("count(2)", x.count(2), 7);
        for (int path = 0; path < 7; path++) {
            DUE.is("path(" + path + ", 0)", x.path(path, 0), names.charAt(path));
            DUE.is("path(" + path + ", 1)", x.path(path, 1), outers[path]);
        }
        DUE.is("record(0, 0)", x.record(0, 0), 0);
        DUE.is("record(1, 0)", x.record(1, 0), 1);
        DUE.is("read()", Due.read(x, "{a:1,b:{c:{},d:2}}"), 2);
        DUE.is("record(2, 0)", x.record(2, 0), 0);
        DUE.is("read()", Due.read(x, "{b:{c:{},d:2},a:1}"), 3);
        DUE.is("record(3, 0), other order", x.record(3, 0), 2);
        DUE.is("read()", Due.read(x, "{a:1,b:{c:2,d:2}}"), 4);
        DUE.is("record(4, 0), a leaf instead of a branch", x.record(4, 0), 3);
        DUE.is("count(2)", x.count(2), 7);
        DUE.is("count(1)", x.count(1), 5);
    }

    private static void failure(String text, int place) {
        LikeRecords x = new LikeRecords();
        Due.append(x, text);
        DUE.is("read() of " + text, x.read(), -1000 - place);
        DUE.is("count(9) after " + text, x.count(9), text.length());
        DUE.is("read() again of " + text, x.read(), -1000 - place);
        for (int what = 0; what <= 8; what++) {
            DUE.is("count(" + what + ") after " + text, x.count(what), what == 7 ? 2 : 0);
        }
    }

    private static void readFailures() {
        DUE.part("promise 4, failures");
        failure("", 0);
        failure("   ", 3);
        failure("a", 0);
        failure(" }", 1);
        failure("{", 1);
        failure("{ ", 2);
        failure("{,", 1);
        failure("{1", 1);
        failure("{A:1}", 1);
        failure("{`:1}", 1);
        failure("{{:1}", 1);
        failure("{a", 2);
        failure("{a1", 2);
        failure("{a}", 2);
        failure("{ab:1}", 2);
        failure("{a:", 3);
        failure("{a:}", 3);
        failure("{a:,", 3);
        failure("{a:b}", 3);
        failure("{a:/}", 3);
        failure("{a:::}", 3);
        failure("{a:1", 4);
        failure("{a:1 ", 5);
        failure("{a:1,", 5);
        failure("{a:1, ", 6);
        failure("{a:1,}", 5);
        failure("{a:1,,b:1}", 5);
        failure("{a:1 2}", 5);
        failure("{a:1b:2}", 4);
        failure("{a:1{", 4);
        failure("{a:1}}", 5);
        failure("{a:1} {", 6);
        failure("{a:1},", 5);
        failure("{a:01}", 4);
        failure("{a:00}", 4);
        failure("{a:1000}", 6);
        failure("{a:-1}", 3);
        failure("{a:1,a:2}", 5);
        failure("{a:{},a:2}", 6);
        failure("{a:1,b:{a:1},b:{}}", 13);
        failure("{a:{b:1,c:2,b", 12);
        failure("{a:{b:{c:{}}}", 13);
        failure("{a:{b:{c:{d:{", 12);
        failure("{a:{b:{c:{},d:{e:1,f:{", 21);
        failure("{}\t", 2);
        failure("{" + (char) 160 + "}", 1);
        failure("{a:1,b:2,c:3,d:4,e:5,f:6,g:7,h:8,i:9,j:0,k:1}", 43);
        failure("{a:1,b:2,c:3,d:4,e:5,f:6,g:7,h:8,i:9,j:{a:0,b:{c:9", 49);
        failure("{a:1,b:2,c:3,d:4,e:5,f:6,g:7,h:8,i:9,j:0,k:", 43);
        failure("{a:1,b:2,c:3,d:4,e:5,f:6,g:7,h:8,i:9,j:00", 40);
    }

    private static void readLengths() {
        DUE.part("promise 4, whole texts");
        failure("{a:1" + " ".repeat(76), 80);
        failure("{a:1}" + " ".repeat(74) + "x", 79);
        LikeRecords x = with("{}" + " ".repeat(78), "{a:{b:{c:{d:1,e:2}},d:{}}}",
            "{a:1,b:2,c:3,d:4,e:5,f:6,g:7,h:8,i:9,j:0,k:{},l:{m:{}}}",
            "{a:100,b:200,c:300,d:400,e:500,f:600,g:700,h:800,i:900,j:999,k:{a:{b:{}}},l:{}}");
        back(x, 0, "{}");
        back(x, 1, "{a:{b:{c:{d:1,e:2}},d:{}}}");
        back(x, 2, "{a:1,b:2,c:3,d:4,e:5,f:6,g:7,h:8,i:9,j:0,k:{},l:{m:{}}}");
        back(x, 3, "{a:100,b:200,c:300,d:400,e:500,f:600,g:700,h:800,i:900,j:999,k:{a:{b:{}}},l:{}}");
    }

    private static void readRecordsCapacity() {
        DUE.part("promise 4, 30 records");
        LikeRecords x = new LikeRecords();
        for (int record = 0; record < 30; record++) {
            DUE.is("read()", Due.read(x, "{a:" + record + "}"), record);
        }
        DUE.is("discard(3)", x.discard(3), 29);
        DUE.is("read() as 31st", Due.read(x, "{a:1}"), -3);
        DUE.is("count(9)", x.count(9), 5);
        DUE.is("append(120)", x.append('x'), 6);
        DUE.is("read() that fails as 31st", x.read(), -1005);
        DUE.is("count(0)", x.count(0), 29);
        DUE.is("count(1)", x.count(1), 30);
        DUE.is("count(8)", x.count(8), 5);
        DUE.is("clearText()", x.clearText(), 6);
        DUE.is("undo()", x.undo(), 4);
        DUE.is("count(0)", x.count(0), 30);
        DUE.is("undo()", x.undo(), 3);
        DUE.is("read()", Due.read(x, "{b:77}"), 29);
        DUE.is("value(29, 1)", x.value(29, 1), 77);
        DUE.is("value(29, 0)", x.value(29, 0), -9);
        DUE.is("record(30, 0)", x.record(30, 0), -1);
        DUE.is("like(29)", x.like(29), 0);
        DUE.is("like(28)", x.like(28), 0);
        DUE.is("like(0)", x.like(0), 1);
    }

    private static void readPathsCapacity() {
        DUE.part("promise 4, 60 paths");
        LikeRecords x = new LikeRecords();
        for (int record = 0; record < 6; record++) {
            String text = "{" + (char) ('a' + record) + ":{a:1,b:2,c:3,d:4,e:5,f:6,g:7,h:8,i:9}}";
            DUE.is("read()", Due.read(x, text), record);
            DUE.is("count(2)", x.count(2), 10 + record * 10);
        }
        DUE.is("read() with a 61st path", Due.read(x, "{a:1,g:1}"), -3);
        DUE.is("count(9)", x.count(9), 9);
        DUE.is("count(2)", x.count(2), 60);
        DUE.is("path(59, 0)", x.path(59, 0), 'i');
        DUE.is("path(59, 1)", x.path(59, 1), 50);
        DUE.is("path(60, 0)", x.path(60, 0), -1);
        DUE.is("value(5, 60)", x.value(5, 60), -1);
        DUE.is("clearText()", x.clearText(), 9);
        DUE.is("read() with known paths", Due.read(x, "{a:1,f:{i:3}}"), 6);
        DUE.is("field(6, 0)", x.field(6, 0), 0);
        DUE.is("field(6, 1)", x.field(6, 1), 150);
        DUE.is("field(6, 2)", x.field(6, 2), 59);
        DUE.is("undo()", x.undo(), 4);
        DUE.is("undo()", x.undo(), 3);
        DUE.is("count(2)", x.count(2), 50);
        DUE.is("read()", Due.read(x, "{g:1}"), 5);
        DUE.is("count(2)", x.count(2), 51);
        DUE.is("path(50, 0)", x.path(50, 0), 'g');
        DUE.is("path(50, 2)", x.path(50, 2), 1);
        DUE.is("discard(5)", x.discard(5), 5);
        DUE.is("count(2) after discard", x.count(2), 51);
    }

    private static void shapesCapacity() {
        DUE.part("promises 4 and 7, 40 shapes");
        LikeRecords x = new LikeRecords();
        int shapes = 1;
        for (int record = 0; record < 5; record++) {
            DUE.is("read()", Due.read(x, "{a:0,b:1,c:2,d:3,e:4,f:5,g:6,h:7,i:8,j:9}"), record);
            for (int dropped = 0; dropped < 9 && shapes < 40; dropped++) {
                int path = (record + dropped) % 10;
                DUE.is("drop(" + record + ", " + path + ")", x.drop(record, path), shapes);
                shapes++;
            }
        }
        DUE.is("count(3)", x.count(3), 40);
        back(x, 4, "{a:0,b:1,c:2,d:3,h:7,i:8,j:9}");
        DUE.is("drop(4, 9) into a 41st shape", x.drop(4, 9), -3);
        DUE.is("drop(4, 4) of no field", x.drop(4, 4), -2);
        DUE.is("drop(5, 0)", x.drop(5, 0), -1);
        back(x, 4, "{a:0,b:1,c:2,d:3,h:7,i:8,j:9}");
        DUE.is("read() of a 41st shape", Due.read(x, "{a:{}}"), -3);
        DUE.is("clearText()", x.clearText(), 6);
        DUE.is("count(8)", x.count(8), 5);
        DUE.is("drop(4, 3) into a known shape", x.drop(4, 3), 31);
        back(x, 4, "{a:0,b:1,c:2,h:7,i:8,j:9}");
        DUE.is("read() of a known shape", Due.read(x, "{a:5}"), 5);
        DUE.is("record(5, 0)", x.record(5, 0), 18);
        DUE.is("shape(39, 0)", x.shape(39, 0), 0);
        DUE.is("shape(40, 0)", x.shape(40, 0), -1);
    }

    private static void discard() {
        DUE.part("promise 5");
        LikeRecords x = with("{a:1,b:{c:2}}", "{a:3,b:{c:4}}", "{d:5}");
        for (int wrong : new int[] {-1, 3, 29, 30, -9, MIN, MAX}) {
            DUE.is("discard(" + wrong + ")", x.discard(wrong), -1);
        }
        DUE.is("count(8)", x.count(8), 3);
        DUE.is("discard(1)", x.discard(1), 2);
        DUE.is("discard(1)", x.discard(1), -1);
        DUE.is("count(8)", x.count(8), 4);
        DUE.is("count(0)", x.count(0), 2);
        DUE.is("count(1)", x.count(1), 3);
        DUE.is("count(2)", x.count(2), 4);
        DUE.is("count(3)", x.count(3), 2);
        DUE.is("count(4)", x.count(4), 0);
        DUE.is("count(5)", x.count(5), 2);
        DUE.is("record(1, 0)", x.record(1, 0), -1);
        DUE.is("character(1, 0)", x.character(1, 0), -1);
        DUE.is("value(1, 0)", x.value(1, 0), -1);
        DUE.is("change(1, 0, 5)", x.change(1, 0, 5), -1);
        DUE.is("drop(1, 0)", x.drop(1, 0), -1);
        DUE.is("like(1)", x.like(1), -1);
        DUE.is("path(0, 4)", x.path(0, 4), 1);
        DUE.is("read()", Due.read(x, "{}"), 3);
        DUE.is("discard(0)", x.discard(0), 2);
        DUE.is("discard(2)", x.discard(2), 1);
        DUE.is("discard(3)", x.discard(3), 0);
        DUE.is("count(6)", x.count(6), 0);
        DUE.is("undo()", x.undo(), 4);
        DUE.is("count(0)", x.count(0), 1);
        DUE.is("record(3, 3)", x.record(3, 3), 2);
    }

    private static void change() {
        DUE.part("promise 6");
        LikeRecords x = with("{a:1,b:{c:2,d:3},e:0}", "{b:7}");
        DUE.is("change(0, 3, 999)", x.change(0, 3, 999), 3);
        DUE.is("change(0, 3, 0)", x.change(0, 3, 0), 999);
        DUE.is("change(0, 0, 55)", x.change(0, 0, 55), 1);
        DUE.is("change(1, 1, 8)", x.change(1, 1, 8), 7);
        back(x, 0, "{a:55,b:{c:2,d:0},e:0}");
        DUE.is("count(8)", x.count(8), 5);
        DUE.is("change(0, 1, 5), a branch", x.change(0, 1, 5), -2);
        DUE.is("change(1, 0, 5), not there", x.change(1, 0, 5), -2);
        for (int wrong : new int[] {-1, 1000, MIN, MAX}) {
            DUE.is("change(0, 0, " + wrong + ")", x.change(0, 0, wrong), -1);
            DUE.is("change(0, 1, " + wrong + ")", x.change(0, 1, wrong), -1);
        }
        for (int wrong : new int[] {-1, 2, -9, MIN, MAX}) {
            DUE.is("change(" + wrong + ", 0, 1)", x.change(wrong, 0, 1), -1);
        }
        for (int wrong : new int[] {-1, 5, -9, 101, MIN, MAX}) {
            DUE.is("change(0, " + wrong + ", 1)", x.change(0, wrong, 1), -1);
        }
        back(x, 0, "{a:55,b:{c:2,d:0},e:0}");
        back(x, 1, "{b:8}");
        DUE.is("change(0, 0, 55) to the same", x.change(0, 0, 55), 55);
        DUE.is("undo()", x.undo(), 4);
        DUE.is("value(0, 0)", x.value(0, 0), 55);
        DUE.is("undo()", x.undo(), 3);
        DUE.is("value(1, 1)", x.value(1, 1), 7);
        DUE.is("undo()", x.undo(), 2);
        DUE.is("value(0, 0)", x.value(0, 0), 1);
    }

    private static void drop() {
        DUE.part("promise 7");
        LikeRecords x = with("{a:1,b:{c:2,d:3,e:4},f:5}", "{f:6}");
        DUE.is("drop(0, 3)", x.drop(0, 3), 2);
        back(x, 0, "{a:1,b:{c:2,e:4},f:5}");
        DUE.is("count(8)", x.count(8), 3);
        DUE.is("value(0, 4)", x.value(0, 4), 4);
        DUE.is("value(0, 5)", x.value(0, 5), 5);
        DUE.is("value(0, 3)", x.value(0, 3), -9);
        DUE.is("drop(0, 3)", x.drop(0, 3), -2);
        DUE.is("drop(1, 1)", x.drop(1, 1), -2);
        for (int wrong : new int[] {-1, 2, -9, MIN, MAX}) {
            DUE.is("drop(" + wrong + ", 0)", x.drop(wrong, 0), -1);
        }
        for (int wrong : new int[] {-1, 6, -9, 101, MIN, MAX}) {
            DUE.is("drop(0, " + wrong + ")", x.drop(0, wrong), -1);
        }
        DUE.is("count(8)", x.count(8), 3);
        DUE.is("drop(0, 0)", x.drop(0, 0), 3);
        back(x, 0, "{b:{c:2,e:4},f:5}");
        DUE.is("drop(0, 1)", x.drop(0, 1), 1);
        back(x, 0, "{f:5}");
        DUE.is("drop(0, 5)", x.drop(0, 5), 4);
        back(x, 0, "{}");
        back(x, 1, "{f:6}");
        DUE.is("count(3)", x.count(3), 5);
        DUE.is("count(2)", x.count(2), 6);
        DUE.is("drop(1, 5)", x.drop(1, 5), 4);
        DUE.is("undo()", x.undo(), 4);
        back(x, 1, "{f:6}");
        DUE.is("undo()", x.undo(), 3);
        DUE.is("undo()", x.undo(), 2);
        back(x, 0, "{b:{c:2,e:4},f:5}");
        DUE.is("count(3)", x.count(3), 4);
    }

    private static void dropBranches() {
        DUE.part("promise 7, branches");
        LikeRecords x = with("{a:{b:{c:{d:1},e:2}},f:{b:{c:3}},b:4}");
        DUE.is("drop(0, 2)", x.drop(0, 2), 1);
        back(x, 0, "{a:{b:{e:2}},f:{b:{c:3}},b:4}");
        DUE.is("drop(0, 3), gone with its branch", x.drop(0, 3), -2);
        DUE.is("drop(0, 1)", x.drop(0, 1), 2);
        back(x, 0, "{a:{},f:{b:{c:3}},b:4}");
        DUE.is("drop(0, 8)", x.drop(0, 8), 3);
        back(x, 0, "{a:{},f:{b:{c:3}}}");
        DUE.is("change(0, 7, 123)", x.change(0, 7, 123), 3);
        DUE.is("drop(0, 7)", x.drop(0, 7), 4);
        back(x, 0, "{a:{},f:{b:{}}}");
        DUE.is("drop(0, 5)", x.drop(0, 5), 5);
        back(x, 0, "{a:{}}");
        DUE.is("drop(0, 0)", x.drop(0, 0), 6);
        back(x, 0, "{}");
        DUE.is("shape(6, 0)", x.shape(6, 0), 1);
        DUE.is("shape(5, 0)", x.shape(5, 0), 0);
        DUE.is("undo()", x.undo(), 4);
        DUE.is("undo()", x.undo(), 3);
        DUE.is("undo()", x.undo(), 2);
        back(x, 0, "{a:{},f:{b:{c:123}}}");
    }

    private static void setBound() {
        DUE.part("promise 8");
        LikeRecords x = with("{a:1}", "{a:2}", "{b:3}", "{a:4}", "{}", "{}");
        for (int wrong : new int[] {0, -1, 11, MIN, MAX}) {
            DUE.is("setBound(" + wrong + ")", x.setBound(wrong), -1);
        }
        DUE.is("count(7)", x.count(7), 2);
        DUE.is("setBound(1)", x.setBound(1), 3);
        DUE.is("setBound(2)", x.setBound(2), 2);
        DUE.is("setBound(3)", x.setBound(3), 1);
        DUE.is("setBound(4)", x.setBound(4), 0);
        DUE.is("setBound(10)", x.setBound(10), 0);
        DUE.is("setBound(3)", x.setBound(3), 1);
        DUE.is("setBound(3)", x.setBound(3), 1);
        DUE.is("count(8)", x.count(8), 5);
        DUE.is("count(7)", x.count(7), 3);
        DUE.is("undo()", x.undo(), 4);
        DUE.is("count(7)", x.count(7), 3);
        DUE.is("undo()", x.undo(), 3);
        DUE.is("count(7)", x.count(7), 10);
        LikeRecords y = with("{a:1}", "{b:1}");
        DUE.is("drop(1, 1)", y.drop(1, 1), 2);
        DUE.is("setBound(1), a shape without records", y.setBound(1), 2);
    }

    private static void undo() {
        DUE.part("promise 9");
        LikeRecords x = new LikeRecords();
        DUE.is("undo()", x.undo(), -2);
        Due.append(x, "{a:1}");
        DUE.is("undo()", x.undo(), -2);
        DUE.is("count(9)", x.count(9), 5);
        DUE.is("read()", x.read(), 0);
        Due.append(x, "{x");
        DUE.is("undo()", x.undo(), 0);
        DUE.is("count(9), the text is no part of the state", x.count(9), 2);
        DUE.is("count(0)", x.count(0), 0);
        DUE.is("count(1)", x.count(1), 0);
        DUE.is("count(2)", x.count(2), 0);
        DUE.is("count(3)", x.count(3), 0);
        DUE.is("undo()", x.undo(), -2);
    }

    private static void undoForgets() {
        DUE.part("promise 9, paths and shapes");
        LikeRecords x = with("{a:1}", "{b:{c:2}}", "{d:3}");
        DUE.is("undo()", x.undo(), 2);
        DUE.is("undo()", x.undo(), 1);
        DUE.is("count(2)", x.count(2), 1);
        DUE.is("count(3)", x.count(3), 1);
        DUE.is("path(1, 0)", x.path(1, 0), -1);
        DUE.is("shape(1, 0)", x.shape(1, 0), -1);
        DUE.is("field(1, 0)", x.field(1, 0), -1);
        DUE.is("read()", Due.read(x, "{d:{c:{b:9}},a:8}"), 1);
        DUE.is("path(1, 0)", x.path(1, 0), 'd');
        DUE.is("path(2, 0)", x.path(2, 0), 'c');
        DUE.is("path(2, 1)", x.path(2, 1), 1);
        DUE.is("path(3, 1)", x.path(3, 1), 2);
        DUE.is("record(1, 0)", x.record(1, 0), 1);
        back(x, 1, "{d:{c:{b:9}},a:8}");
        DUE.is("read() that fails behind new paths", Due.read(x, "{e:{f:1},g"), -1010);
        DUE.is("clearText()", x.clearText(), 10);
        DUE.is("count(2)", x.count(2), 4);
        DUE.is("read()", Due.read(x, "{g:1}"), 2);
        DUE.is("path(4, 0)", x.path(4, 0), 'g');
        DUE.is("discard(0)", x.discard(0), 2);
        DUE.is("path(0, 0) after discard", x.path(0, 0), 'a');
        DUE.is("undo()", x.undo(), 3);
        DUE.is("value(0, 0)", x.value(0, 0), 1);
    }

    private static void history() {
        DUE.part("promise 9, history");
        LikeRecords x = with("{a:0}");
        DUE.is("undo()", x.undo(), 0);
        DUE.is("read()", Due.read(x, "{a:0}"), 0);
        for (int value = 1; value <= 7; value++) {
            DUE.is("change(0, 0, " + value + ")", x.change(0, 0, value), value - 1);
            DUE.is("count(8)", x.count(8), Math.min(5, value + 1));
        }
        for (int left = 4; left >= 0; left--) {
            DUE.is("undo()", x.undo(), left);
            DUE.is("value(0, 0)", x.value(0, 0), left + 2);
        }
        DUE.is("undo()", x.undo(), -2);
        DUE.is("value(0, 0)", x.value(0, 0), 2);
        for (int value = 1; value <= 3; value++) {
            x.change(0, 0, value);
        }
        DUE.is("undo()", x.undo(), 2);
        DUE.is("change(0, 0, 50)", x.change(0, 0, 50), 2);
        DUE.is("undo()", x.undo(), 2);
        DUE.is("value(0, 0)", x.value(0, 0), 2);
        DUE.is("undo()", x.undo(), 1);
        DUE.is("undo()", x.undo(), 0);
        DUE.is("value(0, 0)", x.value(0, 0), 2);
    }

    private static void count() {
        DUE.part("promise 10");
        LikeRecords x = with("{a:1,b:{c:2,d:{}}}", "{a:3,b:{c:4,d:{}}}", "{a:5}", "{e:{}}");
        DUE.is("discard(2)", x.discard(2), 3);
        Due.append(x, "{z");
        // records 3; the common shape 1 + 4 fields + 2 times 2 leaves; the rare record 1 branch
        int[] answers = {3, 4, 5, 3, 1, 1, 3 + 1 + 4 + 4 + 1, 2, 5, 2};
        for (int what = 0; what <= 9; what++) {
            DUE.is("count(" + what + ")", x.count(what), answers[what]);
        }
        for (int wrong : new int[] {-1, 10, MIN, MAX}) {
            DUE.is("count(" + wrong + ")", x.count(wrong), -1);
        }
        DUE.is("setBound(3)", x.setBound(3), 0);
        // records 3; two rare ones with 2 leaves and 2 branches, one with a branch
        DUE.is("count(6)", x.count(6), 3 + 2 * (4 + 2) + 1);
        DUE.is("count(5)", x.count(5), 3);
        DUE.is("setBound(1)", x.setBound(1), 2);
        DUE.is("count(6)", x.count(6), 3 + 1 + 4 + 4 + 1 + 1);
        DUE.is("count(5)", x.count(5), 0);
    }

    private static void record() {
        DUE.part("promise 11");
        LikeRecords x = with("{}", "{a:10,b:{c:200,d:{e:3,f:{}}},g:0}", "{b:{c:1}}");
        int[][] answers = {{0, 0, 0, 2, 0}, {1, 4, 3, 33, 213}, {2, 1, 1, 9, 1}};
        for (int record = 0; record < 3; record++) {
            for (int what = 0; what <= 4; what++) {
                DUE.is("record(" + record + ", " + what + ")", x.record(record, what), answers[record][what]);
            }
            for (int wrong : new int[] {-1, 5, MIN, MAX}) {
                DUE.is("record(" + record + ", " + wrong + ")", x.record(record, wrong), -1);
            }
        }
        for (int wrong : new int[] {-1, 3, -9, 30, MIN, MAX}) {
            DUE.is("record(" + wrong + ", 0)", x.record(wrong, 0), -1);
        }
        DUE.is("change(1, 6, 999)", x.change(1, 6, 999), 0);
        DUE.is("record(1, 3)", x.record(1, 3), 35);
        DUE.is("record(1, 4)", x.record(1, 4), 1212);
        DUE.is("drop(1, 3)", x.drop(1, 3), 3);
        DUE.is("record(1, 0)", x.record(1, 0), 3);
        DUE.is("record(1, 1)", x.record(1, 1), 3);
        DUE.is("record(1, 2)", x.record(1, 2), 1);
        DUE.is("record(1, 4)", x.record(1, 4), 1209);
    }

    private static void character() {
        DUE.part("promise 12");
        LikeRecords x = with(" { a : 10 , b : { c : { d : 0 } , e : 305 } } ", "{a:0,b:1,c:2,d:3,e:4,f:5,g:6,h:7,i:8,j:9}");
        String text = "{a:10,b:{c:{d:0},e:305}}";
        for (int i = 0; i < text.length(); i++) {
            DUE.is("character(0, " + i + ")", x.character(0, i), text.charAt(i));
        }
        DUE.is("character(0, 24)", x.character(0, 24), -9);
        DUE.is("character(0, 25)", x.character(0, 25), -9);
        DUE.is("character(0, MAX)", x.character(0, MAX), -9);
        for (int wrong : new int[] {-1, -9, MIN}) {
            DUE.is("character(0, " + wrong + ")", x.character(0, wrong), -1);
        }
        for (int wrong : new int[] {-1, 2, -9, MIN, MAX}) {
            DUE.is("character(" + wrong + ", 0)", x.character(wrong, 0), -1);
            DUE.is("character(" + wrong + ", 99)", x.character(wrong, 99), -1);
        }
        int leaves = 0;
        for (int path = 0; path < x.count(2); path++) {
            if (x.value(1, path) >= 0) {
                x.change(1, path, 990 + leaves);
                leaves++;
            }
        }
        DUE.is("leaves", leaves, 10);
        DUE.is("record(1, 3)", x.record(1, 3), 61);
        DUE.is("character(1, 60)", x.character(1, 60), '}');
        DUE.is("character(1, 61)", x.character(1, 61), -9);
    }

    private static void longestText() {
        DUE.part("promise 12, the longest text");
        String text = "{a:0,b:1,c:2,d:3,e:4,f:5,g:6,h:7,i:8,j:9,k:{},l:{},m:{},n:{},o:{},p:{},q:{z:{}}}";
        DUE.is("length", text.length(), 80);
        LikeRecords x = with(text);
        for (int path = 0; path < 10; path++) {
            DUE.is("change(0, " + path + ", 999)", x.change(0, path, 990 + path), path);
        }
        back(x, 0, "{a:990,b:991,c:992,d:993,e:994,f:995,g:996,h:997,i:998,j:999,"
            + "k:{},l:{},m:{},n:{},o:{},p:{},q:{z:{}}}");
        DUE.is("record(0, 3)", x.record(0, 3), 100);
        DUE.is("character(0, 100)", x.character(0, 100), -9);
        DUE.is("shape(0, 4)", x.shape(0, 4), 70);
    }

    private static void value() {
        DUE.part("promise 13");
        LikeRecords x = with("{a:1,b:{a:2,c:0}}", "{c:999,b:4}");
        int[][] answers = {{1, -9, 2, 0, -9}, {-9, 4, -9, -9, 999}};
        for (int record = 0; record < 2; record++) {
            for (int path = 0; path < 5; path++) {
                DUE.is("value(" + record + ", " + path + ")", x.value(record, path), answers[record][path]);
            }
            for (int wrong : new int[] {-1, 5, -9, 100, 101, MIN, MAX}) {
                DUE.is("value(" + record + ", " + wrong + ")", x.value(record, wrong), -1);
            }
        }
        for (int wrong : new int[] {-1, 2, -9, MIN, MAX}) {
            DUE.is("value(" + wrong + ", 0)", x.value(wrong, 0), -1);
        }
    }

    private static void path() {
        DUE.part("promise 14");
        LikeRecords x = with("{a:1,b:{c:2}}", "{a:5,b:{c:6}}", "{b:{c:7},a:8}", "{b:9,z:{}}", "{}");
        int[][] answers = {
            {'a', -9, 3, 0, 14, 2 + 3 + 2},
            {'b', -9, 1, 3, 9, 3 + 2},
            {'c', 1, 3, 0, 15, 2 + 3 + 2},
            {'z', -9, 0, 1, 0, 3 + 2}};
        for (int path = 0; path < 4; path++) {
            for (int what = 0; what <= 5; what++) {
                DUE.is("path(" + path + ", " + what + ")", x.path(path, what), answers[path][what]);
            }
            for (int wrong : new int[] {-1, 6, MIN, MAX}) {
                DUE.is("path(" + path + ", " + wrong + ")", x.path(path, wrong), -1);
            }
        }
        for (int wrong : new int[] {-1, 4, -9, 100, MIN, MAX}) {
            DUE.is("path(" + wrong + ", 0)", x.path(wrong, 0), -1);
        }
        DUE.is("setBound(1)", x.setBound(1), 4);
        DUE.is("path(0, 5), all common", x.path(0, 5), 3);
        DUE.is("path(1, 5), all common", x.path(1, 5), 1);
        DUE.is("path(3, 5), all common", x.path(3, 5), 0);
        DUE.is("setBound(3)", x.setBound(3), 0);
        DUE.is("path(3, 5), all rare", x.path(3, 5), 3 + 3 + 3 + 2);
        DUE.is("discard(0)", x.discard(0), 4);
        DUE.is("path(0, 2)", x.path(0, 2), 2);
        DUE.is("path(0, 4)", x.path(0, 4), 13);
        DUE.is("path(1, 3)", x.path(1, 3), 2);
        DUE.is("path(3, 5)", x.path(3, 5), 8);
    }

    private static void shape() {
        DUE.part("promise 15");
        LikeRecords branch = with("{a:{b:1}}");
        DUE.is("shape(0, 2) of a branch at path 0", branch.shape(0, 2), 1);
        DUE.is("shape(0, 3) of a branch at path 0", branch.shape(0, 3), 1);
        LikeRecords x = with("{a:100,b:{c:200,d:{}},e:3}", "{}", "{a:1,b:{c:2,d:{}},e:999}", "{b:{}}");
        int[][] answers = {{2, 1, 3, 2, 19}, {1, 0, 0, 0, 2}, {1, 0, 0, 1, 6}};
        for (int shape = 0; shape < 3; shape++) {
            for (int what = 0; what <= 4; what++) {
                DUE.is("shape(" + shape + ", " + what + ")", x.shape(shape, what), answers[shape][what]);
            }
            for (int wrong : new int[] {-1, 5, MIN, MAX}) {
                DUE.is("shape(" + shape + ", " + wrong + ")", x.shape(shape, wrong), -1);
            }
        }
        for (int wrong : new int[] {-1, 3, -9, 40, MIN, MAX}) {
            DUE.is("shape(" + wrong + ", 0)", x.shape(wrong, 0), -1);
        }
        DUE.is("discard(1)", x.discard(1), 3);
        DUE.is("setBound(1)", x.setBound(1), 2);
        DUE.is("shape(1, 0)", x.shape(1, 0), 0);
        DUE.is("shape(1, 1)", x.shape(1, 1), 0);
        DUE.is("shape(2, 1)", x.shape(2, 1), 1);
        DUE.is("setBound(3)", x.setBound(3), 0);
        DUE.is("shape(0, 1)", x.shape(0, 1), 0);
        DUE.is("read()", Due.read(x, "{a:4,b:{c:5,d:{}},e:6}"), 4);
        DUE.is("shape(0, 1)", x.shape(0, 1), 1);
    }

    private static void column() {
        DUE.part("promise 16");
        LikeRecords x = with("{a:1,b:{c:2},d:3}", "{b:{c:9},a:9}", "{a:4,b:{c:5},d:6}", "{a:7,b:{c:8},d:0}");
        int[][] answers = {{1, 4, 7}, {2, 5, 8}, {3, 6, 0}};
        for (int leaf = 0; leaf < 3; leaf++) {
            for (int index = 0; index < 3; index++) {
                DUE.is("column(0, " + leaf + ", " + index + ")", x.column(0, leaf, index), answers[leaf][index]);
            }
            DUE.is("column(0, " + leaf + ", 3)", x.column(0, leaf, 3), -9);
            DUE.is("column(0, " + leaf + ", MAX)", x.column(0, leaf, MAX), -9);
        }
        DUE.is("column(0, 3, 0)", x.column(0, 3, 0), -9);
        DUE.is("column(0, 9, 0)", x.column(0, 9, 0), -9);
        DUE.is("column(0, 10, 0)", x.column(0, 10, 0), -9);
        DUE.is("column(0, MAX, 0)", x.column(0, MAX, 0), -9);
        DUE.is("column(1, 0, 0)", x.column(1, 0, 0), -2);
        DUE.is("column(1, 9, 9)", x.column(1, 9, 9), -2);
        for (int wrong : new int[] {-1, -9, MIN}) {
            DUE.is("column(0, " + wrong + ", 0)", x.column(0, wrong, 0), -1);
            DUE.is("column(0, 0, " + wrong + ")", x.column(0, 0, wrong), -1);
            DUE.is("column(1, " + wrong + ", 0)", x.column(1, wrong, 0), -1);
            DUE.is("column(1, 0, " + wrong + ")", x.column(1, 0, wrong), -1);
            DUE.is("column(" + wrong + ", 0, 0)", x.column(wrong, 0, 0), -1);
        }
        DUE.is("column(2, 0, 0)", x.column(2, 0, 0), -1);
        DUE.is("column(MAX, 0, 0)", x.column(MAX, 0, 0), -1);
        DUE.is("change(2, 2, 77)", x.change(2, 2, 77), 5);
        DUE.is("column(0, 1, 1)", x.column(0, 1, 1), 77);
        DUE.is("discard(0)", x.discard(0), 3);
        DUE.is("column(0, 0, 0)", x.column(0, 0, 0), 4);
        DUE.is("column(0, 0, 2)", x.column(0, 0, 2), -9);
        DUE.is("setBound(3)", x.setBound(3), 0);
        DUE.is("column(0, 0, 0)", x.column(0, 0, 0), -2);
        DUE.is("drop(1, 0)", x.drop(1, 0), 2);
        DUE.is("setBound(1)", x.setBound(1), 2);
        DUE.is("column(1, 0, 0), no records", x.column(1, 0, 0), -2);
        DUE.is("column(2, 0, 0)", x.column(2, 0, 0), 9);
        DUE.is("column(2, 1, 0), dropped", x.column(2, 1, 0), -9);
    }

    private static void field() {
        DUE.part("promise 17");
        LikeRecords x = with("{a:{b:{c:1},d:2},e:3}", "{e:{},a:{d:2,b:5}}", "{}");
        int[][] answers = {{100, 101, 2, 3, 4}, {104, 100, 3, 1}, {}};
        for (int shape = 0; shape < 3; shape++) {
            for (int index = 0; index < answers[shape].length; index++) {
                DUE.is("field(" + shape + ", " + index + ")", x.field(shape, index), answers[shape][index]);
            }
            DUE.is("field(" + shape + ", behind)", x.field(shape, answers[shape].length), -9);
            DUE.is("field(" + shape + ", MAX)", x.field(shape, MAX), -9);
            for (int wrong : new int[] {-1, -9, MIN}) {
                DUE.is("field(" + shape + ", " + wrong + ")", x.field(shape, wrong), -1);
            }
        }
        for (int wrong : new int[] {-1, 3, -9, 40, MIN, MAX}) {
            DUE.is("field(" + wrong + ", 0)", x.field(wrong, 0), -1);
        }
        DUE.is("discard(0)", x.discard(0), 2);
        DUE.is("field(0, 1), a shape without records", x.field(0, 1), 101);
    }

    private static void sizeWith() {
        DUE.part("promise 18");
        LikeRecords x = with("{a:1,b:{c:2}}", "{a:1,b:{c:2}}", "{a:1,b:{c:2}}", "{b:{},a:1}", "{b:{},a:2}", "{}");
        // three with 2 leaves and a branch, two with a leaf and a branch, one with nothing
        int common3 = 1 + 3 + 6;
        int common2 = 1 + 2 + 2;
        int rare3 = 3 * 5;
        int rare2 = 2 * 3;
        DUE.is("sizeWith(1)", x.sizeWith(1), 6 + common3 + common2 + 1);
        DUE.is("sizeWith(2)", x.sizeWith(2), 6 + common3 + common2);
        DUE.is("sizeWith(3)", x.sizeWith(3), 6 + common3 + rare2);
        for (int bound = 4; bound <= 10; bound++) {
            DUE.is("sizeWith(" + bound + ")", x.sizeWith(bound), 6 + rare3 + rare2);
        }
        for (int wrong : new int[] {0, -1, 11, MIN, MAX}) {
            DUE.is("sizeWith(" + wrong + ")", x.sizeWith(wrong), -1);
        }
        DUE.is("count(7)", x.count(7), 2);
        DUE.is("count(8)", x.count(8), 5);
        DUE.is("discard(0)", x.discard(0), 5);
        DUE.is("discard(1)", x.discard(1), 4);
        DUE.is("discard(2)", x.discard(2), 3);
        DUE.is("sizeWith(1), a shape without records", x.sizeWith(1), 3 + common2 + 1);
    }

    private static void bestBound() {
        DUE.part("promise 19");
        LikeRecords x = new LikeRecords();
        DUE.is("bestBound() of a new object", x.bestBound(), 1);
        DUE.is("read()", Due.read(x, "{a:1}"), 0);
        // common 1 + 1 + 1, rare 2
        DUE.is("bestBound()", x.bestBound(), 2);
        DUE.is("read()", Due.read(x, "{a:1}"), 1);
        // common 1 + 1 + 2, rare 4
        DUE.is("bestBound(), the smallest of several", x.bestBound(), 1);
        LikeRecords y = new LikeRecords();
        for (int record = 0; record < 9; record++) {
            DUE.is("read()", Due.read(y, "{a:{}}"), record);
        }
        // nine branches are less than a shape, but for its 1 and 1
        DUE.is("bestBound()", y.bestBound(), 1);
        LikeRecords z = new LikeRecords();
        for (int record = 0; record < 9; record++) {
            DUE.is("read()", Due.read(z, "{}"), record);
        }
        DUE.is("bestBound(), nine empty ones", z.bestBound(), 10);
        DUE.is("count(7)", z.count(7), 2);
        DUE.is("read()", Due.read(z, "{}"), 9);
        DUE.is("bestBound(), ten empty ones", z.bestBound(), 1);
        DUE.is("setBound(7)", z.setBound(7), 1);
        DUE.is("bestBound()", z.bestBound(), 1);
        DUE.is("count(7)", z.count(7), 7);
    }

    private static void like() {
        DUE.part("promise 20");
        LikeRecords x = with("{a:1,b:2,c:{d:3}}", "{e:9}", "{b:7,a:8}", "{a:1,b:2,c:3}", "{c:{d:5,b:6},a:1}", "{d:1}");
        int[] answers = {2, 0, 0, 0, 0, 0};
        for (int record = 0; record < 6; record++) {
            DUE.is("like(" + record + ")", x.like(record), answers[record]);
        }
        for (int wrong : new int[] {-1, 6, -9, 30, MIN, MAX}) {
            DUE.is("like(" + wrong + ")", x.like(wrong), -1);
        }
        DUE.is("discard(0)", x.discard(0), 5);
        DUE.is("like(0)", x.like(0), -1);
        DUE.is("like(1), nothing in common", x.like(1), 2);
        DUE.is("like(2)", x.like(2), 3);
        DUE.is("like(3)", x.like(3), 2);
        DUE.is("like(4)", x.like(4), 2);
        LikeRecords y = with("{a:1,b:2,c:3}", "{a:1}", "{c:9,b:9,d:9}", "{d:1,b:2,c:3}");
        DUE.is("like(0)", y.like(0), 2);
        DUE.is("like(1)", y.like(1), 0);
        DUE.is("like(2)", y.like(2), 3);
        DUE.is("discard(2)", y.discard(2), 3);
        DUE.is("like(0)", y.like(0), 3);
        DUE.is("discard(0)", y.discard(0), 2);
        DUE.is("discard(1)", y.discard(1), 1);
        DUE.is("like(3), no other", y.like(3), -9);
    }
}
