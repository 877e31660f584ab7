import java.io.IOException;
import java.lang.reflect.Modifier;
import java.nio.charset.StandardCharsets;
import java.nio.file.Files;
import java.nio.file.Paths;
import java.util.Arrays;

/** The sentences ahead of the terms, and those about what the interface says: what it is, and the public face. */
final class FaceSentences {
    private static final String SOURCE = "src/main/java/LikeRecords.java";
    private static final int MOST_CALLS = 512;

    private final Book book;

    private FaceSentences(Book book) {
        this.book = book;
    }

    static void all(Book book) throws IOException {
        FaceSentences sentences = new FaceSentences(book);
        book.section("What it is");
        sentences.whatItIs();
        sentences.calls();
        book.section("The public face");
        sentences.face();
        book.section("Errors");
        sentences.parts();
    }

    // ---- What it is

    private void whatItIs() {
        book.says("Records of unlike forms: records with fields within fields that are read from a text, shapes that are "
            + "learned from them, columns of values for the common shapes, rare records that are kept apart, paths that are "
            + "read alone and what this costs, changed values, dropped fields, the size of what is kept, the bound by which "
            + "it is smallest, records that come back as texts, and undo.");
        LikeRecords x = book.with("{a:1,b:{c:2}}", "{a:3,b:{c:4}}", "{d:5}");
        book.is("count(3), shapes", x.count(3), 2);
        book.is("column(0, 1, 1), columns", x.column(0, 1, 1), 4);
        book.is("count(5), rare records", x.count(5), 1);
        book.is("value(1, 2), paths", x.value(1, 2), 4);
        book.is("path(2, 5), what this costs", x.path(2, 5), 2 + 1);
        book.is("count(6), the size", x.count(6), 3 + 1 + 3 + 4 + 2);
        book.is("bestBound()", x.bestBound(), 2);
        book.is("change(1, 2, 66), changed values", x.change(1, 2, 66), 4);
        book.back(x, 1, "{a:3,b:{c:66}}");
        book.is("drop(1, 0), dropped fields", x.drop(1, 0), 2);
        book.back(x, 1, "{b:{c:66}}");
        book.is("undo()", x.undo(), 4);
        book.is("undo()", x.undo(), 3);
        book.back(x, 1, "{a:3,b:{c:4}}");
    }

    private void calls() {
        book.says("An object is used for at most 512 calls after it has been made;");
        LikeRecords x = new LikeRecords();
        for (int call = 1; call <= MOST_CALLS - 12; call += 4) {
            book.is("append(123)", x.append('{'), 1);
            book.is("append(120)", x.append('x'), 2);
            book.is("clearText()", x.clearText(), 2);
            book.is("setBound(10)", x.setBound(10), 0);
        }
        book.is("read() behind 505 calls", Due.read(x, "{a:7}"), 0);
        book.is("count(8)", x.count(8), 5);
        book.is("bestBound()", x.bestBound(), 2);
        book.is("character(0, 3)", x.character(0, 3), '7');
        book.is("drop(0, 0)", x.drop(0, 0), 1);
        book.is("undo()", x.undo(), 4);
        book.is("value(0, 0) as the 512th call", x.value(0, 0), 7);
        book.says("what later calls answer is free.");
        for (int call = 0; call < MOST_CALLS; call++) {
            x.append('{');
            x.read();
            x.setBound(call);
        }
        book.isTrue("calls come back all the same", x.count(7) > 0);
    }

    // ---- The public face

    private void face() {
        book.says("public final class LikeRecords {");
        book.is("its modifiers", LikeRecords.class.getModifiers(), Modifier.PUBLIC | Modifier.FINAL);
        constant("INVALID_ARGUMENT = -1");
        constant("ILLEGAL_STATE = -2");
        constant("CAPACITY_EXCEEDED = -3");
        constant("NONE = -9");
        book.says("public LikeRecords();");
        book.isTrue("it makes an object", isThere(() -> LikeRecords.class.getConstructor()));
        String[] methods = {"append(int character)", "clearText()", "read()", "discard(int record)",
            "change(int record, int path, int value)", "drop(int record, int path)", "setBound(int bound)", "undo()",
            "count(int what)", "record(int record, int what)", "character(int record, int index)",
            "value(int record, int path)", "path(int path, int what)", "shape(int shape, int what)",
            "column(int shape, int leaf, int index)", "field(int shape, int index)", "sizeWith(int bound)", "bestBound()",
            "like(int record)"};
        for (String method : methods) {
            method(method);
        }
    }

    private interface Search {
        Object find() throws ReflectiveOperationException;
    }

    private static boolean isThere(Search search) {
        try {
            return search.find() != null;
        } catch (ReflectiveOperationException notThere) {
            return false;
        }
    }

    private void constant(String line) {
        book.says("public static final int " + line + ";");
        String name = line.substring(0, line.indexOf(' '));
        int value = Integer.parseInt(line.substring(line.indexOf("= ") + 2));
        book.isTrue(line, isThere(() -> LikeRecords.class.getField(name).getInt(null) == value ? name : null));
    }

    private void method(String line) {
        book.says("public int " + line + ";");
        String name = line.substring(0, line.indexOf('('));
        Class<?>[] types = new Class<?>[line.split("int ").length - 1];
        Arrays.fill(types, int.class);
        book.isTrue(line, isThere(() -> LikeRecords.class.getMethod(name, types).getReturnType() == int.class ? name : null));
    }

    // ---- what the interface says ahead of its calls

    private void parts() throws IOException {
        String source = Files.readString(Paths.get(SOURCE), StandardCharsets.US_ASCII);
        part(source, "texts and records", "append", "clearText", "read", "discard", "change", "drop", "setBound", "undo");
        part(source, "looking", "count", "record", "character", "value", "path", "shape", "column", "field");
        part(source, "what could be, which changes nothing", "sizeWith", "bestBound", "like");
    }

    private void part(String source, String heading, String... calls) {
        book.says("Ahead of the calls `" + String.join("`, `", calls) + "` the interface says: ---- " + heading + ".");
        int start = source.indexOf("// ---- " + heading + "\n");
        int end = source.indexOf("// ----", start + 1);
        book.isTrue("it is said once", start >= 0 && source.indexOf("// ---- " + heading + "\n", start + 1) < 0);
        int from = start;
        for (String call : calls) {
            from = source.indexOf("public int " + call + "(", from);
            book.isTrue(call + " stands behind it, in its order", from > start && from < end);
        }
    }
}
