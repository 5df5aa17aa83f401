import java.io.IOException;
import java.io.UncheckedIOException;
import java.lang.reflect.InvocationTargetException;
import java.lang.reflect.Method;
import java.nio.ByteBuffer;
import java.nio.charset.StandardCharsets;
import java.nio.file.Files;
import java.nio.file.Path;
import java.util.ArrayList;
import java.util.Arrays;
import java.util.List;
import java.util.TreeSet;
import java.util.regex.Matcher;
import java.util.regex.Pattern;

/** What README.md says of the class: its examples answer so, and its table names what is thrown. */
final class ReadmeTests {
    private static final Pattern BLOCK = Pattern.compile("(?ms)^```java\\n(.*?)^```");
    private static final Pattern MADE = Pattern.compile("NoodleCanal canal = new NoodleCanal\\(\\);");
    private static final Pattern CALL = Pattern.compile("canal\\.(\\w+)\\((?:put\\(canal, \"([^\"]*)\"\\)|([-0-9, ]*))\\);\\s+// (throws \\w+|[^:\\s]+)(?::.*)?");
    private static final Pattern WRITTEN = Pattern.compile("written\\(canal\\);\\s+// (\\S+)");
    private static final Pattern ROW = Pattern.compile("(?m)^\\| `(\\w+)` \\| ([^|]+) \\| ([^|]+) \\|$");

    static void run() {
        Kit.test(0, "the README's examples answer what their comments say", () -> {
            NoodleCanal canal = null;
            int calls = 0;
            for (String block : blocks()) {
                if (block.startsWith("static ")) continue;
                for (String line : block.split("\n")) {
                    if (MADE.matcher(line).matches()) {
                        canal = new NoodleCanal();
                    } else {
                        example(canal, line);
                        calls++;
                    }
                }
            }
            Kit.same("examples were found:", calls > 20, true);
        });
        Kit.test(0, "the README's helpers are those of this file", () -> {
            String source = flat(read("tests/ReadmeTests.java"));
            for (String block : blocks()) {
                if (block.startsWith("static ")) Kit.same("this file has " + block, source.contains(flat(block)), true);
            }
        });
        Kit.test(0, "the README's table has a row for each method that throws more than IndexOutOfBoundsException", () -> {
            Kit.same("the rows", tableRows(), declaredRows());
        });
    }

    private static void example(NoodleCanal canal, String line) {
        Matcher shown = WRITTEN.matcher(line);
        if (shown.matches()) {
            Kit.same(line, written(canal), shown.group(1));
            return;
        }
        Matcher call = CALL.matcher(line);
        if (!call.matches()) throw new AssertionError("not a call with its answer: " + line);
        int[] arguments = call.group(2) != null ? new int[] {put(canal, call.group(2))} : numbers(call.group(3));
        Kit.same(line, answer(canal, call.group(1), arguments), call.group(4));
    }

    private static int[] numbers(String list) {
        return list.isEmpty() ? new int[0] : Arrays.stream(list.split(", ")).mapToInt(Integer::parseInt).toArray();
    }

    private static String answer(NoodleCanal canal, String name, int... arguments) {
        Class<?>[] types = new Class<?>[arguments.length];
        Arrays.fill(types, int.class);
        try {
            Method method = NoodleCanal.class.getMethod(name, types);
            Object answer = method.invoke(canal, Arrays.stream(arguments).boxed().toArray());
            return method.getReturnType() == void.class ? "nothing" : String.valueOf(answer);
        } catch (InvocationTargetException e) {
            return "throws " + e.getCause().getClass().getSimpleName();
        } catch (ReflectiveOperationException e) {
            throw new AssertionError("no method " + name + Arrays.toString(types), e);
        }
    }

    private static TreeSet<String> tableRows() {
        TreeSet<String> rows = new TreeSet<>();
        Matcher m = ROW.matcher(read("README.md"));
        while (m.find()) rows.add(row(m.group(1), !m.group(2).equals("-"), !m.group(3).equals("-")));
        return rows;
    }

    private static TreeSet<String> declaredRows() {
        TreeSet<String> rows = new TreeSet<>();
        for (Method method : NoodleCanal.class.getDeclaredMethods()) {
            List<Class<?>> thrown = Arrays.asList(method.getExceptionTypes());
            boolean argument = thrown.contains(IllegalArgumentException.class);
            boolean state = thrown.contains(IllegalStateException.class);
            if (argument || state) rows.add(row(method.getName(), argument, state));
        }
        return rows;
    }

    private static String row(String method, boolean argument, boolean state) {
        return method + (argument ? " IllegalArgumentException" : "") + (state ? " IllegalStateException" : "");
    }

    private static List<String> blocks() {
        List<String> found = new ArrayList<>();
        Matcher m = BLOCK.matcher(read("README.md"));
        while (m.find()) found.add(m.group(1));
        return found;
    }

    private static String flat(String text) {
        return text.replaceAll("\\s+", " ").strip();
    }

    private static String read(String file) {
        try {
            return Files.readString(Path.of(file));
        } catch (IOException e) {
            throw new UncheckedIOException(e);
        }
    }

    static int put(NoodleCanal canal, String text) {
        byte[] twenties = Arrays.copyOf(text.getBytes(StandardCharsets.ISO_8859_1), (text.length() + 19) / 20 * 20);
        ByteBuffer bytes = ByteBuffer.wrap(twenties);
        while (bytes.hasRemaining()) {
            canal.appendText(bytes.getInt(), bytes.getInt(), bytes.getInt(), bytes.getInt(), bytes.getInt());
        }
        return text.length();
    }

    static String written(NoodleCanal canal) {
        StringBuilder text = new StringBuilder();
        int length = canal.writeCanal();
        for (int i = 0; i < length; i++) {
            text.append((char) canal.outputByte(i));
        }
        return text.toString();
    }
}
