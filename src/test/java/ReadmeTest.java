import java.io.IOException;
import java.lang.reflect.InvocationTargetException;
import java.lang.reflect.Method;
import java.nio.file.Files;
import java.nio.file.Paths;
import java.util.regex.Matcher;
import java.util.regex.Pattern;

/** The example of README.md: each of its lines answers what it tells. */
public final class ReadmeTest {
    private static final Kit KIT = new Kit("Readme");
    private static final Pattern CALL = Pattern.compile("x\\.(\\w+)\\((.*)\\); +// (-?\\d+).*");

    public static void main(String[] args) throws IOException, IllegalAccessException, InvocationTargetException {
        DiskEvidence x = new DiskEvidence();
        int calls = 0;
        for (String line : Files.readAllLines(Paths.get("README.md"))) {
            if (!line.startsWith("x.")) continue;
            Matcher call = CALL.matcher(line);
            KIT.due("the form of " + line, call.matches() ? 1 : 0, 1);
            if (!call.matches()) continue;
            KIT.due(line, answer(x, call.group(1), call.group(2).split(", ")), Long.parseLong(call.group(3)));
            calls++;
        }
        KIT.due("there are calls", calls > 20 ? 1 : 0, 1);
        KIT.finish();
    }

    private static long answer(DiskEvidence x, String name, String[] words) throws IllegalAccessException, InvocationTargetException {
        for (Method m : DiskEvidence.class.getMethods()) {
            if (!m.getName().equals(name)) continue;
            Class<?>[] types = m.getParameterTypes();
            Object[] values = new Object[types.length];
            for (int i = 0; i < types.length; i++) {
                long v = Long.decode(words[i].replace("L", ""));
                if (types[i] == long.class) values[i] = v;
                else values[i] = (int) v;
            }
            return ((Number) m.invoke(x, values)).longValue();
        }
        throw new IllegalStateException("no call " + name);
    }
}
