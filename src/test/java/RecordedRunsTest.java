import java.io.IOException;
import java.lang.reflect.InvocationTargetException;
import java.lang.reflect.Method;
import java.lang.reflect.Modifier;
import java.nio.file.Files;
import java.nio.file.Path;
import java.nio.file.Paths;
import java.util.ArrayList;
import java.util.Collections;
import java.util.HashMap;
import java.util.List;
import java.util.Map;

/**
 * Runs under src/test/runs: a call a line, and the answer that a second writing of the document gave.
 * With the argument "rewrite" the answers of the class as it is now are written there instead: look at the difference.
 */
public final class RecordedRunsTest {
    private static final Kit KIT = new Kit("RecordedRuns");

    public static void main(String[] args) throws IOException, IllegalAccessException, InvocationTargetException {
        Map<String, Method> calls = new HashMap<>();
        for (Method m : DiskEvidence.class.getDeclaredMethods()) {
            if (Modifier.isPublic(m.getModifiers())) calls.put(m.getName(), m);
        }
        List<Path> runs = new ArrayList<>();
        try (var files = Files.list(Paths.get("src/test/runs"))) {
            files.forEach(runs::add);
        }
        Collections.sort(runs);
        boolean rewrite = args.length > 0 && args[0].equals("rewrite");
        for (Path run : runs) {
            List<String> answered = replay(run, calls);
            if (rewrite) Files.write(run, answered);
        }
        KIT.due("runs", runs.isEmpty() ? 0 : 1, 1);
        KIT.finish();
    }

    /** The lines of a run with the answers that the class gives. */
    private static List<String> replay(Path run, Map<String, Method> calls) throws IOException, IllegalAccessException, InvocationTargetException {
        DiskEvidence x = new DiskEvidence();
        List<String> answered = new ArrayList<>();
        int number = 0;
        for (String line : Files.readAllLines(run)) {
            number++;
            String[] words = line.split(" ");
            Method call = calls.get(words[0]);
            Class<?>[] types = call.getParameterTypes();
            Object[] values = new Object[types.length];
            for (int i = 0; i < types.length; i++) {
                long v = Long.parseLong(words[i + 1]);
                if (types[i] == boolean.class) values[i] = v != 0;
                else if (types[i] == long.class) values[i] = v;
                else values[i] = (int) v;
            }
            long answer = ((Number) call.invoke(x, values)).longValue();
            KIT.due(run.getFileName() + " " + number + " " + line, answer, Long.parseLong(words[words.length - 1]));
            answered.add(line.substring(0, line.lastIndexOf(' ') + 1) + answer);
        }
        return answered;
    }
}
