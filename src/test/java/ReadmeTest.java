import java.io.IOException;
import java.lang.reflect.Field;
import java.lang.reflect.Method;
import java.lang.reflect.Modifier;
import java.nio.charset.StandardCharsets;
import java.nio.file.Files;
import java.nio.file.Paths;
import java.util.Arrays;
import java.util.regex.Matcher;
import java.util.regex.Pattern;

/** README.md: its run of calls has the answers that it tells, and it tells of every call and constant. */
public final class ReadmeTest {
    private static final String PAGE = "README.md";
    private static final Pattern READING = Pattern.compile("read\\(records, \"(.*)\"\\); +// (-?\\d+)(:.*)?");
    private static final Pattern CALL = Pattern.compile("records\\.(\\w+)\\(([-\\d, ]*)\\); +// (-?\\d+)(:.*)?");

    private static final Due DUE = new Due();

    public static void main(String[] args) throws IOException, ReflectiveOperationException {
        String page = Files.readString(Paths.get(PAGE), StandardCharsets.UTF_8);
        DUE.part(PAGE);
        run(page);
        calls(page);
        constants(page);
        DUE.end();
    }

    private static void run(String page) throws ReflectiveOperationException {
        LikeRecords records = new LikeRecords();
        int told = 0;
        for (String line : page.split("\n")) {
            Matcher reading = READING.matcher(line);
            Matcher call = CALL.matcher(line);
            if (reading.matches()) {
                DUE.is(line, Due.read(records, reading.group(1)), Integer.parseInt(reading.group(2)));
                told++;
            } else if (call.matches()) {
                DUE.is(line, answer(records, call.group(1), call.group(2)), Integer.parseInt(call.group(3)));
                told++;
            } else {
                DUE.is("a call that is not understood: " + line, line.matches(".*\\); *//.*") ? 1 : 0, 0);
            }
        }
        DUE.is("answers are told", told > 20 ? 1 : 0, 1);
    }

    private static int answer(LikeRecords records, String name, String arguments) throws ReflectiveOperationException {
        Object[] numbers = arguments.isBlank() ? new Object[0]
            : Arrays.stream(arguments.split(", *")).map(Integer::valueOf).toArray();
        Class<?>[] types = new Class<?>[numbers.length];
        Arrays.fill(types, int.class);
        return (Integer) LikeRecords.class.getMethod(name, types).invoke(records, numbers);
    }

    private static void calls(String page) {
        for (Method method : LikeRecords.class.getDeclaredMethods()) {
            if (Modifier.isPublic(method.getModifiers())) {
                String row = "\n\\| `" + method.getName() + "\\(" + "\\w+(, \\w+)*".repeat(method.getParameterCount() > 0 ? 1 : 0);
                Matcher matcher = Pattern.compile(row + "\\)` \\| \\w").matcher(page);
                DUE.is("tells of " + method.getName() + "()", matcher.find() ? 1 : 0, 1);
            }
        }
    }

    private static void constants(String page) throws IllegalAccessException {
        for (Field field : LikeRecords.class.getFields()) {
            String row = "\n| `" + field.getName() + "` | " + field.getInt(null) + " | ";
            DUE.is("tells of " + field.getName(), page.contains(row) ? 1 : 0, 1);
        }
    }
}
