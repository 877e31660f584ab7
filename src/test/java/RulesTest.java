import java.io.IOException;
import java.lang.management.ManagementFactory;
import java.lang.reflect.Constructor;
import java.lang.reflect.Field;
import java.lang.reflect.Method;
import java.lang.reflect.Modifier;
import java.nio.charset.StandardCharsets;
import java.nio.file.Files;
import java.nio.file.Paths;
import java.util.ArrayList;
import java.util.Arrays;
import java.util.List;
import java.util.TreeSet;
import java.util.regex.Matcher;
import java.util.regex.Pattern;

/** What of the rules in ../shared/LANGUAGE.md can be seen from the source and the class; runs in the project's directory. */
public final class RulesTest {
    private static final String SOURCE = "src/main/java/LikeRecords.java";
    private static final String FACE = "append(int) bestBound() change(int,int,int) character(int,int) clearText() "
        + "column(int,int,int) count(int) discard(int) drop(int,int) field(int,int) like(int) path(int,int) read() "
        + "record(int,int) setBound(int) shape(int,int) sizeWith(int) undo() value(int,int)";
    private static final String CONSTANTS = "CAPACITY_EXCEEDED ILLEGAL_STATE INVALID_ARGUMENT NONE";
    private static final String FORBIDDEN = "\\b(import|package|throw|throws|try|catch|finally|synchronized|assert|"
        + "hashCode|toString|Math\\.\\w+Exact|System|Thread|Random|Object|var|yield)\\b|->|::|@";

    private static final Due DUE = new Due();

    public static void main(String[] args) throws IOException {
        String source = Files.readString(Paths.get(SOURCE), StandardCharsets.US_ASCII);
        String code = source.replaceAll("(?s)/\\*.*?\\*/", "").replaceAll("//[^\n]*", "");
        DUE.part("rules");
        face();
        names();
        words(code);
        lengths(source);
        room();
        DUE.end();
    }

    private static void same(String what, String got, String due) {
        DUE.is(what + ": " + got + ", due is " + due + ": ", got.equals(due) ? 1 : 0, 1);
    }

    private static void face() {
        TreeSet<String> methods = new TreeSet<>();
        for (Method method : LikeRecords.class.getDeclaredMethods()) {
            if (!Modifier.isPrivate(method.getModifiers())) {
                String types = Arrays.toString(method.getParameterTypes()).replaceAll("[\\[\\] ]", "");
                methods.add(method.getName() + "(" + types + ")");
                DUE.is(method + " is public and not static", method.getModifiers(), Modifier.PUBLIC);
                same(method + " answers", method.getReturnType().getName(), "int");
            }
        }
        same("methods", String.join(" ", methods), FACE);
        TreeSet<String> fields = new TreeSet<>();
        for (Field field : LikeRecords.class.getDeclaredFields()) {
            if (!Modifier.isPrivate(field.getModifiers())) {
                fields.add(field.getName());
                DUE.is(field + " is a constant", field.getModifiers(), Modifier.PUBLIC | Modifier.STATIC | Modifier.FINAL);
            }
        }
        same("constants", String.join(" ", fields), CONSTANTS);
        Constructor<?>[] constructors = LikeRecords.class.getDeclaredConstructors();
        DUE.is("constructors", constructors.length, 1);
        DUE.is("parameters of the constructor", constructors[0].getParameterCount(), 0);
        DUE.is("modifiers", LikeRecords.class.getModifiers(), Modifier.PUBLIC | Modifier.FINAL);
    }

    private static List<Class<?>> classes() {
        List<Class<?>> classes = new ArrayList<>();
        classes.add(LikeRecords.class);
        classes.addAll(Arrays.asList(LikeRecords.class.getDeclaredClasses()));
        return classes;
    }

    private static void names() {
        DUE.is("at most 12 classes", classes().size() <= 12 ? 1 : 0, 1);
        for (Class<?> in : classes()) {
            int own = 0;
            for (Field field : in.getDeclaredFields()) {
                own += Modifier.isStatic(field.getModifiers()) ? 0 : 1;
                boolean isChanging = Modifier.isStatic(field.getModifiers()) && !Modifier.isFinal(field.getModifiers());
                DUE.is(field + " changes", isChanging ? 1 : 0, 0);
            }
            DUE.is("at most 20 fields in " + in, own <= 20 ? 1 : 0, 1);
            for (Method method : in.getDeclaredMethods()) {
                boolean isOfFace = (" " + FACE).contains(" " + method.getName() + "(");
                DUE.is(method + " bears a name of the face", isOfFace && !Modifier.isPublic(method.getModifiers()) ? 1 : 0, 0);
                DUE.is(method + " has at most 7 parameters", method.getParameterCount() <= 7 ? 1 : 0, 1);
            }
            if (in != LikeRecords.class) {
                DUE.is(in + " is static", Modifier.isStatic(in.getModifiers()) ? 1 : 0, 1);
            }
        }
    }

    private static void words(String code) {
        Matcher matcher = Pattern.compile(FORBIDDEN).matcher(code);
        while (matcher.find()) {
            same("word", matcher.group(), "none");
        }
    }

    private static void lengths(String source) {
        String[] lines = source.split("\n");
        int start = -1;
        for (int i = 0; i < lines.length; i++) {
            if (lines[i].matches(" +[\\w\\[\\] ]+\\([\\w, \\[\\]]*\\) \\{") && !lines[i].contains(" new ")) {
                start = i;
            }
            if (lines[i].matches(" {4,8}\\}") && start >= 0) {
                DUE.is("lines of " + lines[start].trim(), i - start < 60 ? 1 : 0, 1);
                start = -1;
            }
        }
    }

    /** After a first run, calls make no objects; the bound leaves room for the machine's own ones. */
    private static void room() {
        com.sun.management.ThreadMXBean threads = (com.sun.management.ThreadMXBean) ManagementFactory.getThreadMXBean();
        long thread = Thread.currentThread().getId();
        calls(new LikeRecords());
        LikeRecords object = new LikeRecords();
        long before = threads.getThreadAllocatedBytes(thread);
        calls(object);
        long made = threads.getThreadAllocatedBytes(thread) - before;
        DUE.is("bytes made by a run: " + made + ", too many", made < 4000 ? 0 : 1, 0);
    }

    private static void calls(LikeRecords x) {
        for (int record = 0; record < 20; record++) {
            x.append('{');
            x.append('a' + record % 5);
            x.append(':');
            x.append('7');
            x.append('}');
            x.read();
            x.change(record, record % 5, record);
            x.record(record, 3);
            x.character(record, 3);
            x.value(record, 0);
            x.path(0, 5);
            x.shape(0, 4);
            x.column(0, 0, 0);
            x.field(0, 0);
            x.sizeWith(3);
            x.bestBound();
            x.like(record);
            x.drop(record, 0);
            x.setBound(record % 10);
            x.undo();
            x.count(6);
            x.discard(record % 7);
        }
    }
}
