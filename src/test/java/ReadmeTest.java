import java.io.IOException;
import java.lang.reflect.Method;
import java.lang.reflect.Modifier;
import java.nio.charset.StandardCharsets;
import java.nio.file.Files;
import java.nio.file.Path;
import java.util.TreeSet;
import java.util.regex.Matcher;
import java.util.regex.Pattern;

/** The calls that README.md shows answer what stands behind them there, and its table tells all of them. */
public final class ReadmeTest extends Due {
    private static final Pattern CALL = Pattern.compile("bell\\.(\\w+)\\((.*)\\); +// (-?\\d+)(: .*)?");

    private static OneBell bell = null;

    public static void main(String[] args) throws IOException, ReflectiveOperationException {
        says("README.md");
        String text = Files.readString(Path.of("README.md"), StandardCharsets.UTF_8);
        TreeSet<String> shown = new TreeSet<>();
        Matcher blocks = Pattern.compile("(?s)```java\\n(.*?)```").matcher(text);
        while (blocks.find()) {
            for (String line : blocks.group(1).split("\n")) run(line, shown);
        }
        for (Method m : OneBell.class.getDeclaredMethods()) {
            if (!Modifier.isPublic(m.getModifiers())) continue;
            Matcher row = Pattern.compile("(?m)^\\| `" + m.getName() + "\\(([^)]*)\\)`").matcher(text);
            due("rows of " + m.getName(), row.results().count(), 1);
            row.reset();
            if (row.find()) due("numbers of " + m.getName(), split(row.group(1)).length, m.getParameterCount());
            boolean told = shown.contains(m.getName()) || m.getName().equals("digest");
            due(m.getName() + " is shown", told ? 1 : 0, 1);
        }
        end("the README's calls answer as it says");
    }

    private static void run(String line, TreeSet<String> shown) throws ReflectiveOperationException {
        if (line.equals("OneBell bell = new OneBell();")) {
            bell = new OneBell();
            return;
        }
        Matcher call = CALL.matcher(line);
        if (!call.matches() || bell == null) {
            due("a line that is no call: " + line, 0, 1);
            return;
        }
        shown.add(call.group(1));
        due(line, answer(call.group(1), split(call.group(2))), Long.parseLong(call.group(3)));
    }

    private static long answer(String name, String[] told) throws ReflectiveOperationException {
        for (Method m : OneBell.class.getDeclaredMethods()) {
            if (!m.getName().equals(name) || m.getParameterCount() != told.length) continue;
            Object[] values = new Object[told.length];
            for (int i = 0; i < told.length; i++) values[i] = value(told[i], m.getParameterTypes()[i]);
            return ((Number) m.invoke(bell, values)).longValue();
        }
        throw new NoSuchMethodException(name);
    }

    private static Object value(String told, Class<?> type) {
        if (type == boolean.class) return Boolean.valueOf(told);
        long number = told.equals("OneBell.NONE") ? OneBell.NONE
            : told.startsWith("'") ? told.charAt(1)
            : Long.decode(told.endsWith("L") ? told.substring(0, told.length() - 1) : told);
        if (type == long.class) return number;
        return (int) number;
    }

    private static String[] split(String told) {
        return told.isEmpty() ? new String[0] : told.split(", ");
    }
}
