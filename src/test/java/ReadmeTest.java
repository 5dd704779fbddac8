import java.io.IOException;
import java.lang.reflect.Method;
import java.lang.reflect.Modifier;
import java.nio.file.Files;
import java.nio.file.Path;
import java.util.Set;
import java.util.TreeSet;
import java.util.regex.Matcher;
import java.util.regex.Pattern;

/** The calls that README.md shows answer what it says there, and it names every call. */
public final class ReadmeTest {
    private static final Pattern CALL = Pattern.compile("(?m)^system\\.(\\w+)\\((.*)\\); +// (-?\\w+)(:.*)?$");

    public static void main(String[] args) throws IOException, ReflectiveOperationException {
        Check check = new Check("ReadmeTest");
        String page = Files.readString(Path.of("README.md"));
        checkCalls(check, page);
        checkNames(check, page);
        check.end();
    }

    private static void checkCalls(Check check, String page) throws ReflectiveOperationException {
        RowsMeet system = new RowsMeet();
        Matcher calls = CALL.matcher(page);
        long found = 0;
        while (calls.find()) {
            long got = ((Number) call(system, calls.group(1), calls.group(2))).longValue();
            check.due(calls.group(), got, number(calls.group(3)));
            found++;
        }
        check.due("lines with a call", found, page.lines().filter(line -> line.startsWith("system.")).count());
        check.holds("calls were found", found > 0);
    }

    private static Object call(RowsMeet system, String name, String list) throws ReflectiveOperationException {
        String[] texts = list.isEmpty() ? new String[0] : list.split(", ");
        Object[] values = new Object[texts.length];
        Class<?>[] types = new Class<?>[texts.length];
        for (int n = 0; n < texts.length; n++) {
            values[n] = number(texts[n]);
            types[n] = int.class;
        }
        return RowsMeet.class.getMethod(name, types).invoke(system, values);
    }

    private static int number(String text) {
        if (text.startsWith("'")) {
            return text.charAt(1);
        }
        return text.startsWith("0b") ? Integer.parseInt(text.substring(2), 2) : Integer.parseInt(text);
    }

    private static void checkNames(Check check, String page) {
        Set<String> missing = new TreeSet<>();
        for (Method m : RowsMeet.class.getDeclaredMethods()) {
            if (Modifier.isPublic(m.getModifiers()) && !page.contains("`" + m.getName() + "`")) {
                missing.add(m.getName());
            }
        }
        check.holds("every call is named, not missing " + missing, missing.isEmpty());
    }
}
