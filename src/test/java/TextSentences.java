import java.lang.reflect.Method;
import java.lang.reflect.Modifier;

/** The sentences about texts that are read as records: the terms, and promises 1 to 4. */
final class TextSentences {
    private static final int MIN = Integer.MIN_VALUE;
    private static final int MAX = Integer.MAX_VALUE;
    private static final String TEN = "a:1,b:2,c:3,d:4,e:5,f:6,g:7,h:8,i:9,j:0";

    private final Book book;

    private TextSentences(Book book) {
        this.book = book;
    }

    static void all(Book book) {
        TextSentences sentences = new TextSentences(book);
        book.section("Terms");
        sentences.wholeNumbers();
        book.section("Records");
        sentences.lengths();
        sentences.grammar();
        sentences.letters();
        sentences.numbers();
        sentences.nesting();
        sentences.spaces();
        sentences.failures();
        sentences.records();
        book.section("Promise 1");
        sentences.newObject();
        book.section("Promise 2");
        sentences.append();
        book.section("Promise 3");
        sentences.clearText();
        book.section("Promise 4");
        sentences.read();
        sentences.readWithoutRoom();
    }

    private void wholeNumbers() {
        book.says("All numbers are whole.");
        for (Method method : LikeRecords.class.getDeclaredMethods()) {
            if (Modifier.isPublic(method.getModifiers())) {
                book.isTrue(method + " answers an int", method.getReturnType() == int.class);
                for (Class<?> type : method.getParameterTypes()) {
                    book.isTrue(method + " takes ints", type == int.class);
                }
            }
        }
    }

    // ---- Records

    private void lengths() {
        book.says("A record is read from a text of at most 80 characters:");
        String whole = "{a:100,b:200,c:300,d:400,e:500,f:600,g:700,h:800,i:900,j:999,k:{a:{b:{}}},l:{}}";
        book.is("length of the whole text", whole.length(), 79);
        book.reads(" " + whole, whole);
        LikeRecords x = new LikeRecords();
        Due.append(x, "  " + whole);
        book.is("count(9)", x.count(9), 80);
        book.is("read(), as the 81st is missing", x.read(), -1080);
        book.reads("{}" + " ".repeat(78), "{}");
        book.reads(" ".repeat(78) + "{}", "{}");
    }

    private void grammar() {
        book.says("record = \"{\" [ field { \",\" field } ] \"}\"");
        for (String text : new String[] {"{}", "{a:1}", "{a:1,b:2}", "{a:1,b:{},c:3}", "{z:{y:1,x:2},w:3}"}) {
            book.reads(text, text);
        }
        book.fails("[]", 0);
        book.fails("}", 0);
        book.fails(",", 0);
        book.fails("a:1}", 0);
        book.fails("{,}", 1);
        book.fails("{,a:1}", 1);
        book.fails("{a:1,}", 5);
        book.fails("{a:1,,b:2}", 5);
        book.fails("{a:1;b:2}", 4);
        book.fails("{a:1]", 4);
        book.fails("{a:1 b:2}", 5);
        book.fails("{a:{}b:2}", 5);
        book.fails("{{}}", 1);
        book.fails("{}{}", 2);
        book.fails("{}}", 2);
        book.fails("{},", 2);
        book.fails("{a:{}}}", 6);
        book.says("field = letter \":\" ( number | record )");
        book.reads("{a:1}", "{a:1}");
        book.reads("{a:{}}", "{a:{}}");
        book.fails("{a}", 2);
        book.fails("{a1}", 2);
        book.fails("{a=1}", 2);
        book.fails("{a{}}", 2);
        book.fails("{:1}", 1);
        book.fails("{1:1}", 1);
        book.fails("{a:}", 3);
        book.fails("{a:,b:1}", 3);
        book.fails("{a::1}", 3);
        book.fails("{a:b}", 3);
        book.fails("{ab:1}", 2);
    }

    private void letters() {
        book.says("A letter is a to z;");
        for (char letter = 'a'; letter <= 'z'; letter++) {
            book.reads("{" + letter + ":1}", "{" + letter + ":1}");
            book.is("path(0, 0)", book.with("{" + letter + ":1}").path(0, 0), letter);
        }
        for (int code : new int[] {'a' - 1, 'z' + 1, 'A', 'Z', '0', '_', 1, 127, 128 + 'a', 128 + 'z', 255}) {
            book.fails("{" + (char) code + ":1}", 1);
            book.fails("{a:1," + (char) code + ":1}", 5);
        }
        book.says("within one pair of \"{\" and \"}\" no letter stands twice (inner records have letters of their own).");
        book.fails("{a:1,a:2}", 5);
        book.fails("{a:{},a:2}", 6);
        book.fails("{a:1,a:{}}", 5);
        book.fails("{a:{},a:{}}", 6);
        book.fails("{z:1,y:2,x:3,z:4}", 13);
        book.fails("{a:{b:1,b:2}}", 8);
        book.fails("{a:1,b:{a:1,b:2},b:3}", 17);
        book.fails("{a:{b:1},b:2,a:3}", 13);
        book.fails("{a:{a:{a:{b:1,b:2}}}}", 14);
        book.reads("{a:{a:{a:{a:1}}}}", "{a:{a:{a:{a:1}}}}");
        book.reads("{a:{b:1},b:{b:2,a:3},c:{b:{b:4}}}", "{a:{b:1},b:{b:2,a:3},c:{b:{b:4}}}");
    }

    private void numbers() {
        book.says("A number is 1 to 3 digits, the first of several not 0.");
        for (int number : new int[] {0, 1, 9, 10, 19, 90, 99, 100, 101, 109, 110, 900, 990, 999}) {
            LikeRecords x = book.with("{a:" + number + "}");
            book.is("value(0, 0)", x.value(0, 0), number);
            book.back(x, 0, "{a:" + number + "}");
        }
        book.fails("{a:00}", 4);
        book.fails("{a:01}", 4);
        book.fails("{a:09}", 4);
        book.fails("{a:000}", 4);
        book.fails("{a:1000}", 6);
        book.fails("{a:1001}", 6);
        book.fails("{a:9999}", 6);
        book.fails("{a:5,b:{c:1234}}", 13);
        book.fails("{a:-1}", 3);
        book.fails("{a:+1}", 3);
        book.fails("{a:1.5}", 4);
        book.fails("{a:/}", 3);
        book.fails("{a:;}", 3);
    }

    private void nesting() {
        book.says("Records are nested at most 4 deep (the outer one included), and a record has at most 10 numbers.");
        book.reads("{a:{b:{c:{}}}}", "{a:{b:{c:{}}}}");
        book.reads("{a:{b:{c:{d:1}},c:{d:{e:2}}},f:{}}", "{a:{b:{c:{d:1}},c:{d:{e:2}}},f:{}}");
        book.fails("{a:{b:{c:{d:{}}}}}", 12);
        book.fails("{a:{b:{c:{}},d:{e:{f:{}}}}}", 21);
        book.reads("{" + TEN + "}", "{" + TEN + "}");
        book.reads("{" + TEN + ",k:{l:{}}}", "{" + TEN + ",k:{l:{}}}");
        book.reads("{k:{a:1,b:2,c:3,d:{e:4,f:5,g:6}},h:{i:7,j:8,l:9},m:0}",
            "{k:{a:1,b:2,c:3,d:{e:4,f:5,g:6}},h:{i:7,j:8,l:9},m:0}");
        book.fails("{" + TEN + ",k:1}", 43);
        book.fails("{k:{" + TEN + "},l:0}", 47);
        book.fails("{k:{a:1,b:2,c:3,d:{e:4,f:5,g:6}},h:{i:7,j:8,l:9,m:{n:0}},o:0}", 59);
    }

    private void spaces() {
        book.says("Spaces (code 32) may stand before, between and after all signs, letters and numbers, but not within "
            + "a number.");
        String text = "{a:123,b:{c:0,d:{}},e:45}";
        for (int i = 0; i <= text.length(); i++) {
            String before = text.substring(0, i);
            String behind = text.substring(i);
            if (before.matches(".*[0-9]") && behind.matches("[0-9].*")) {
                book.fails(before + " " + behind, i + 1);
                book.fails(before + "   " + behind, i + 3);
            } else {
                book.reads(before + " " + behind, text);
                book.reads(before + "   " + behind, text);
            }
            for (int code : new int[] {9, 10, 13, 31, 33, 160}) {
                book.fails(before + (char) code + behind, i);
            }
        }
        book.reads(" { a : 123 , b : { c : 0 , d : { } } , e : 45 } ", text);
        book.fails("{a:0 0}", 5);
    }

    private void failures() {
        book.says("A text fails at the first character that is not allowed where it stands (also a letter that stands there "
            + "already, a \"{\" that is nested too deep, the first digit of an 11th number, a digit too many, be it one "
            + "behind a 0), or at its length if it ends where something is missing.");
        book.fails("{a:1,a", 5);
        book.fails("{a:1, a:{a:x", 6);
        book.fails("{a:{b:{c:{d:{", 12);
        book.fails("{a:{b:{c:{d:{a:1,a:1", 12);
        book.fails("{" + TEN + ",k:7", 43);
        book.fails("{" + TEN + ",k:", 43);
        book.fails("{" + TEN + ",k:07", 43);
        book.fails("{a:1234", 6);
        book.fails("{a:00", 4);
        book.fails("{a:00,a:1}", 4);
        book.fails("x{a:1,a:1}", 0);
        String whole = " { a : 12 , b : { c : 0 , d : { } } , e : { f : 3 } }";
        for (int length = 0; length < whole.length(); length++) {
            book.fails(whole.substring(0, length), length);
            book.fails(whole.substring(0, length) + "?", length);
        }
        book.fails(" ".repeat(80), 80);
        book.fails("{a:1" + " ".repeat(76), 80);
        book.fails("{}" + " ".repeat(77) + "}", 79);
    }

    private void records() {
        book.says("There are at most 30 records, numbered from 0 in the order in which they were read, for good;");
        LikeRecords x = new LikeRecords();
        for (int record = 0; record < 30; record++) {
            book.is("read()", Due.read(x, "{a:" + record + "}"), record);
        }
        book.is("read() as 31st", Due.read(x, "{a:30}"), -3);
        book.is("record(30, 0)", x.record(30, 0), -1);
        book.is("discard(0)", x.discard(0), 29);
        book.is("discard(15)", x.discard(15), 28);
        for (int record = 0; record < 30; record++) {
            book.is("value(" + record + ", 0)", x.value(record, 0), record % 15 == 0 ? -1 : record);
        }
        LikeRecords y = book.with("{a:1}", "{a:2}");
        book.is("discard(1)", y.discard(1), 1);
        book.is("read()", Due.read(y, "{a:3}"), 2);
        book.is("discard(0)", y.discard(0), 1);
        book.is("read()", Due.read(y, "{a:4}"), 3);
        book.says("a record can be thrown away, and does not exist any more then.");
        LikeRecords z = book.with("{a:1}", "{a:2}");
        book.is("discard(0)", z.discard(0), 1);
        book.is("count(0)", z.count(0), 1);
        book.is("discard(0)", z.discard(0), -1);
        book.is("change(0, 0, 1)", z.change(0, 0, 1), -1);
        book.is("drop(0, 0)", z.drop(0, 0), -1);
        book.is("record(0, 0)", z.record(0, 0), -1);
        book.is("character(0, 0)", z.character(0, 0), -1);
        book.is("value(0, 0)", z.value(0, 0), -1);
        book.is("like(0)", z.like(0), -1);
        book.is("like(1)", z.like(1), -9);
        book.is("path(0, 2)", z.path(0, 2), 1);
        book.is("path(0, 4)", z.path(0, 4), 2);
        book.is("shape(0, 0)", z.shape(0, 0), 1);
        comingBack();
    }

    private void comingBack() {
        book.says("When a record comes back, its text is as it was read, but without spaces, and with its values as "
            + "they are now.");
        LikeRecords x = book.with("  { b : 10 , a : { z : 0 , c : { } } , d : 999 }  ", "{}");
        book.back(x, 0, "{b:10,a:{z:0,c:{}},d:999}");
        book.back(x, 1, "{}");
        book.is("change(0, 0, 9)", x.change(0, 0, 9), 10);
        book.is("change(0, 2, 100)", x.change(0, 2, 100), 0);
        book.is("change(0, 4, 0)", x.change(0, 4, 0), 999);
        book.back(x, 0, "{b:9,a:{z:100,c:{}},d:0}");
        book.is("undo()", x.undo(), 4);
        book.back(x, 0, "{b:9,a:{z:100,c:{}},d:999}");
        book.is("drop(0, 3)", x.drop(0, 3), 2);
        book.back(x, 0, "{b:9,a:{z:100},d:999}");
        book.is("discard(0)", x.discard(0), 1);
        book.is("undo()", x.undo(), 4);
        book.back(x, 0, "{b:9,a:{z:100},d:999}");
        String longest = "{" + TEN.replaceAll("[0-9]", "0") + ",k:{},l:{},m:{},n:{},o:{},p:{},q:{z:{}}}";
        LikeRecords y = book.with(longest);
        for (int path = 0; path < 10; path++) {
            book.is("change(0, " + path + ", 999)", y.change(0, path, 999), 0);
        }
        book.back(y, 0, longest.replace("0", "999"));
        book.is("record(0, 3)", y.record(0, 3), 100);
    }

    // ---- promises 1 to 3

    private void newObject() {
        book.says("`LikeRecords()`: Creates no records, and an empty text.");
        LikeRecords x = new LikeRecords();
        for (int what = 0; what <= 9; what++) {
            book.is("count(" + what + ")", x.count(what), what == 7 ? 2 : 0);
        }
        book.is("clearText()", x.clearText(), 0);
        book.is("read()", x.read(), -1000);
        book.is("record(0, 0)", x.record(0, 0), -1);
        book.is("path(0, 0)", x.path(0, 0), -1);
        book.is("shape(0, 0)", x.shape(0, 0), -1);
        book.is("undo()", x.undo(), -2);
        LikeRecords other = book.with("{a:1}");
        Due.append(other, "{");
        book.is("count(0) of the first object", x.count(0), 0);
        book.is("count(9) of the first object", x.count(9), 0);
        book.is("count(0) of an object made later", new LikeRecords().count(0), 0);
    }

    private void append() {
        book.says("`int append(int character)`: Appends a character to the text.");
        LikeRecords x = new LikeRecords();
        for (char sign : "{a:1}".toCharArray()) {
            x.append(sign);
        }
        book.is("read()", x.read(), 0);
        book.back(x, 0, "{a:1}");
        book.says("- `character`: character code, 1 to 255");
        LikeRecords y = new LikeRecords();
        for (int code : new int[] {1, 2, 31, 32, 127, 128, 254, 255}) {
            book.isTrue("append(" + code + ") is taken", y.append(code) > 0);
        }
        book.says("Returns the new length of the text;");
        LikeRecords z = new LikeRecords();
        for (int length = 1; length <= 80; length++) {
            book.is("append(120)", z.append('x'), length);
            book.is("count(9)", z.count(9), length);
        }
        book.says("INVALID_ARGUMENT if character is out of range;");
        for (int code : new int[] {0, -1, -32, -255, 256, 257, 256 + 'a', 65536 + 'a', MIN, MIN + 'a', MAX}) {
            book.is("append(" + code + ")", y.append(code), -1);
            book.is("append(" + code + ") to a full text", z.append(code), -1);
        }
        book.is("count(9)", y.count(9), 8);
        book.says("CAPACITY_EXCEEDED if the text already has 80 characters.");
        book.is("append(1)", z.append(1), -3);
        book.is("append(255)", z.append(255), -3);
        book.is("count(9)", z.count(9), 80);
        book.is("clearText()", z.clearText(), 80);
        book.is("append(1)", z.append(1), 1);
    }

    private void clearText() {
        book.says("`int clearText()`: Makes the text empty.");
        LikeRecords x = new LikeRecords();
        Due.append(x, "{a:x");
        x.clearText();
        book.is("count(9)", x.count(9), 0);
        book.is("read()", x.read(), -1000);
        book.is("read()", Due.read(x, "{b:2}"), 0);
        book.back(x, 0, "{b:2}");
        book.says("Returns the previous length of the text.");
        LikeRecords y = new LikeRecords();
        book.is("clearText() of an empty text", y.clearText(), 0);
        Due.append(y, "{");
        book.is("clearText()", y.clearText(), 1);
        book.is("clearText() again", y.clearText(), 0);
        Due.append(y, "x".repeat(80));
        book.is("clearText() of a full text", y.clearText(), 80);
    }

    // ---- promise 4

    private void read() {
        book.says("`int read()`: Reads the text as a record.");
        book.reads("{a:1,b:{c:2}}", "{a:1,b:{c:2}}");
        book.says("If a number is returned that is no error code, this is an action, and the text becomes empty;");
        LikeRecords x = book.with("{a:1}");
        book.is("count(9)", x.count(9), 0);
        book.is("count(8)", x.count(8), 1);
        book.is("read() of the empty text", x.read(), -1000);
        book.is("undo()", x.undo(), 0);
        book.is("count(1)", x.count(1), 0);
        book.says("otherwise the text is kept.");
        LikeRecords y = new LikeRecords();
        Due.append(y, "{a:1,");
        book.is("read()", y.read(), -1005);
        book.is("count(9)", y.count(9), 5);
        book.is("count(8), a text that fails is no action", y.count(8), 0);
        Due.append(y, "b:2}");
        book.is("read()", y.read(), 0);
        book.back(y, 0, "{a:1,b:2}");
        for (Script full : new Script[] {Full.records().append("{}"), Full.paths().append("{z:1}"),
            Full.shapes().append("{}")}) {
            LikeRecords z = full.run();
            int length = z.count(9);
            book.is("read() without room", z.read(), -3);
            book.is("count(9)", z.count(9), length);
            book.is("count(8)", z.count(8), 5);
        }
        book.says("Returns the number of the record;");
        LikeRecords z = new LikeRecords();
        for (int record = 0; record < 30; record++) {
            book.is("read()", Due.read(z, "{}"), record);
        }
        book.says("-1000 minus the place of the failure if the text fails;");
        book.fails("", 0);
        book.fails("?", 0);
        book.fails("{?", 1);
        book.fails("{}" + " ".repeat(77) + "?", 79);
        book.fails(" ".repeat(80), 80);
    }

    private void readWithoutRoom() {
        book.says("CAPACITY_EXCEEDED if there were 30 records, thrown away ones included, or more than 60 paths or 40 "
            + "shapes would be known.");
        LikeRecords x = Full.records().run();
        book.is("count(1)", x.count(1), 30);
        book.is("discard(29)", x.discard(29), 29);
        book.is("discard(0)", x.discard(0), 28);
        book.is("read(), thrown away ones included", Due.read(x, "{}"), -3);
        book.is("clearText()", x.clearText(), 2);
        book.is("read() that fails as well", Due.read(x, "{a:1"), -1004);
        book.is("clearText()", x.clearText(), 4);
        for (int left = 4; left >= 2; left--) {
            book.is("undo()", x.undo(), left);
        }
        book.is("read(), as there were 29", Due.read(x, "{b:1}"), 29);
        LikeRecords y = Full.paths().run();
        book.is("count(2)", y.count(2), 60);
        book.is("read() with a 61st path", Due.read(y, "{z:1}"), -3);
        book.is("clearText()", y.clearText(), 5);
        book.is("read() with a 61st path, a branch", Due.read(y, "{a:{z:{}}}"), -3);
        book.is("clearText()", y.clearText(), 10);
        book.is("read() that fails behind it", Due.read(y, "{z:1?"), -1004);
        book.is("clearText()", y.clearText(), 5);
        book.is("read() of known paths", Due.read(y, "{f:{i:1},b:1}"), 6);
        book.is("undo()", y.undo(), 4);
        book.is("undo()", y.undo(), 3);
        book.is("read() up to 60 paths", Due.read(y, "{h:{a:1,b:2,c:3,d:4,e:5,f:6,g:7,h:8,i:{}}}"), 5);
        book.is("count(2)", y.count(2), 60);
        book.is("undo()", y.undo(), 3);
        book.is("read() up to 61 paths", Due.read(y, "{h:{a:1,b:2,c:3,d:4,e:5,f:6,g:7,h:8,i:{j:9}}}"), -3);
        LikeRecords z = Full.shapes().run();
        book.is("count(3)", z.count(3), 40);
        book.is("read() of a 41st shape", Due.read(z, "{}"), -3);
        book.is("clearText()", z.clearText(), 2);
        book.is("read() that fails behind it", Due.read(z, "{}?"), -1002);
        book.is("clearText()", z.clearText(), 3);
        book.is("read() of a known shape", Due.read(z, Full.TEN_NUMBERS), 5);
        book.is("undo()", z.undo(), 4);
        book.is("undo()", z.undo(), 3);
        book.is("count(3)", z.count(3), 39);
        book.is("read() of a 40th shape", Due.read(z, "{}"), 5);
    }
}
