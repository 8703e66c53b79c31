import java.io.IOException;
import java.lang.reflect.Constructor;
import java.lang.reflect.Field;
import java.lang.reflect.Method;
import java.lang.reflect.Modifier;
import java.nio.file.Files;
import java.nio.file.Path;
import java.nio.file.Paths;
import java.util.HashSet;
import java.util.List;
import java.util.Set;
import java.util.TreeSet;
import java.util.regex.Matcher;
import java.util.regex.Pattern;

/** The face that the document tells, and those rules of LANGUAGE.md that can be seen from outside. */
public final class LanguageTest {
    private static final Kit KIT = new Kit("Language");
    private static final Path SOURCE = Paths.get("src/main/java/DiskEvidence.java");

    public static void main(String[] args) throws IOException, IllegalAccessException {
        face();
        constants();
        classesInside();
        words();
        lengths();
        KIT.finish();
    }

    private static Set<String> toldFace() throws IOException {
        Set<String> told = new TreeSet<>();
        Pattern head = Pattern.compile("\\s+public (\\w+) (\\w+)\\((.*)\\);");
        for (String line : Files.readAllLines(Paths.get("../shared/DOC.md"))) {
            Matcher m = head.matcher(line);
            if (m.matches()) told.add(m.group(1) + " " + m.group(2) + "(" + m.group(3).replaceAll("(\\w+) \\w+", "$1") + ")");
        }
        return told;
    }

    private static void face() throws IOException {
        Set<String> has = new TreeSet<>();
        Set<String> names = new HashSet<>();
        for (Method m : DiskEvidence.class.getDeclaredMethods()) {
            if (Modifier.isPrivate(m.getModifiers())) continue;
            StringBuilder s = new StringBuilder(m.getReturnType() + " " + m.getName() + "(");
            for (Class<?> type : m.getParameterTypes()) s.append(s.charAt(s.length() - 1) == '(' ? "" : ", ").append(type);
            has.add(s.append(')').toString());
            names.add(m.getName());
            KIT.due(m.getName() + " is public", Modifier.isPublic(m.getModifiers()) && !Modifier.isStatic(m.getModifiers()) ? 1 : 0, 1);
        }
        KIT.due("the face", has.toString(), toldFace().toString());
        KIT.due("its size", has.size(), 53);
        for (Class<?> c : allClasses()) {
            for (Method m : c.getDeclaredMethods()) {
                boolean own = c == DiskEvidence.class && Modifier.isPublic(m.getModifiers());
                KIT.due("another method named " + m.getName(), !own && names.contains(m.getName()) ? 1 : 0, 0);
                KIT.due("parameters of " + m.getName(), m.getParameterCount() > 7 ? 1 : 0, 0);
            }
        }
        Constructor<?>[] made = DiskEvidence.class.getDeclaredConstructors();
        KIT.due("one public constructor", made.length == 1 && Modifier.isPublic(made[0].getModifiers()) && made[0].getParameterCount() == 0 ? 1 : 0, 1);
        KIT.due("a public final class", DiskEvidence.class.getModifiers(), Modifier.PUBLIC | Modifier.FINAL);
    }

    private static Class<?>[] allClasses() {
        Class<?>[] inside = DiskEvidence.class.getDeclaredClasses();
        Class<?>[] all = new Class<?>[inside.length + 1];
        all[0] = DiskEvidence.class;
        System.arraycopy(inside, 0, all, 1, inside.length);
        return all;
    }

    private static void constants() throws IllegalAccessException {
        StringBuilder s = new StringBuilder();
        for (Field f : DiskEvidence.class.getDeclaredFields()) {
            if (Modifier.isPrivate(f.getModifiers())) continue;
            s.append(Modifier.toString(f.getModifiers())).append(' ').append(f.getName()).append(' ').append(f.getInt(null)).append(';');
        }
        KIT.due("constants", s.toString(), "public static final NONE -1;public static final BAD -2;public static final FULL -3;public static final PATH -4;public static final FORM -5;");
    }

    private static void classesInside() {
        Class<?>[] all = allClasses();
        KIT.due("classes", all.length <= 13 ? 1 : 0, 1);
        for (Class<?> c : all) {
            int fields = 0;
            for (Field f : c.getDeclaredFields()) {
                if (!Modifier.isStatic(f.getModifiers())) fields++;
                else KIT.due(f.getName() + " is final", Modifier.isFinal(f.getModifiers()) ? 1 : 0, 1);
            }
            KIT.due("fields of " + c.getName(), fields <= 20 ? 1 : 0, 1);
            if (c != DiskEvidence.class) KIT.due(c.getName() + " is private, static", c.getModifiers() & (Modifier.PRIVATE | Modifier.STATIC), Modifier.PRIVATE | Modifier.STATIC);
        }
    }

    private static void words() throws IOException {
        String source = Files.readString(SOURCE);
        String[] never = {"catch", "throw ", "finally", "->", "::", "synchronized", "assert", "instanceof", "static {", "double", "float", "package ", "Exact(", "Object ", "new String", "printStackTrace", "while (true)", "for (;;)", "\t"};
        for (String word : never) KIT.due("no " + word, source.contains(word) ? 1 : 0, 0);
        for (int i = 0; i < source.length(); i++) if (source.charAt(i) > 126) KIT.due("sign at " + i, source.charAt(i), 0);
        Set<String> calls = new TreeSet<>();
        Matcher m = Pattern.compile("\\b(System|Arrays|Math|Integer|Long|String|List|Character)\\.(\\w+)").matcher(source);
        while (m.find()) calls.add(m.group());
        KIT.due("the library", calls.toString(), "[Arrays.copyOf, Arrays.copyOfRange, Arrays.fill, Math.max, Math.min, System.arraycopy]");
        Matcher imports = Pattern.compile("import .*").matcher(source);
        StringBuilder all = new StringBuilder();
        while (imports.find()) all.append(imports.group());
        KIT.due("imports", all.toString(), "import java.util.Arrays;");
    }

    /** A method ends where a line closes it at the depth where its head stands. */
    private static void lengths() throws IOException {
        List<String> lines = Files.readAllLines(SOURCE);
        for (int i = 0; i < lines.size(); i++) {
            String line = lines.get(i);
            if (!line.matches("( {4}| {8})[a-zA-Z].*\\) \\{") || line.trim().startsWith("for") || line.trim().startsWith("if")) continue;
            String close = line.replaceAll("[^ ].*", "") + "}";
            int end = i;
            while (end < lines.size() && !lines.get(end).equals(close)) end++;
            KIT.due("length of " + line.trim(), end - i > 60 ? end - i : 0, 0);
        }
    }
}
