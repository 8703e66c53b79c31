import java.lang.reflect.Method;
import java.util.HashMap;
import java.util.Map;

/** "BAD goes first in all calls": each number of each call just out of its range, and far out of it; nothing is done then. */
public final class EdgesRefusedTest {
    private static final Kit KIT = new Kit("EdgesRefused");
    private static final int MAX = Integer.MAX_VALUE, MIN = Integer.MIN_VALUE;

    /** A call with good numbers; behind each that has a range how many there are (0 .. less 1). */
    private static final String[] CALLS = {
        "sectors 0/2", "spoil 0/2 0/20 1", "byteAt 0/2 0/1280", "poke 0/2 0/1280 0/256", "crc 0/2 0/1281 1/1281", "parts 0/2", "part 1/2 0/1 0/6",
        "volume 0/2 0/20 1/21", "join 1 0/3 1/3 -1", "join 1 0 1 2/3", "blocks 0/3", "volumeByte 0/3 0/1280", "where 0/3 0/20", "format 2/3 3 0/1", "format 2/3 1 0/776", "save 2/3", "folder 2/3",
        "erase 2/3", "mount 0/3", "tree 0/2 0/9", "fault 0/2 0/2 0/3", "owner 0/2 0/20", "free 0/2 0/1 0/2", "find 0/2", "name 0/2 0/3 0", "field 0/2 0/3 0/11", "block 0/2 0/3 0",
        "content 0/2 0/3 0", "slack 0/2 0/3 0", "open 0/2 0/3", "node 0/1 0/6 0/5", "opened 0/1 0/4", "inside 0/1 3", "word 0/2", "pattern 0/2", "hit 0/2 0/3", "question 0/2", "row 0/2",
        "time 0/7 0/5", "doubt 0/6 0/3", "claim 0/2 0/3 1 5", "claim 0 0 3 0/3", "claimed 0/1 0/5", "check 0/1", "alter 0/1 0/3 5", "count 0/10"};

    public static void main(String[] args) throws ReflectiveOperationException {
        numbersJustOut();
        numbersFarOut();
        kindsThatAreNone();
        nothingThere();
        fullAndBad();
        KIT.finish();
    }

    /** Everything has some: 2 PICTURES, 3 VOLUMES, 2 TREES of three FILES, an OPEN one with an INSIDE one, HITS, ROWS, moments, DOUBTS, a CLAIM, an ACT. */
    private static DiskEvidence full() {
        DiskEvidence x = new DiskEvidence();
        String p = Formats.pack("a", "1");
        Image m = Image.nodes(20, 4).named(5, 0, 2, "p").named(5, 1, 3, "q").node(2, 1, p.length(), 6).moments(2, 5, 0, 0).text(6 * 64, p).takes(6).node(3, 1, 65, 7, 3).moments(3, 6, 7, 0).takes(7).part(0, 0, 1, 1, 1);
        Kit.text(x, m.packed());
        x.picture();
        Kit.text(x, new Image(20).table(0).part(0, 0, 1, 1, 1).packed());
        x.picture();
        x.volume(0, 0, 20);
        x.volume(0, 0, 20);
        x.volume(1, 1, 10);
        x.mount(0);
        x.mount(1);
        x.open(0, 0);
        x.inside(0, 3);
        x.open(0, 1);
        Kit.word(x, 0, "PK\3");
        Kit.question(x, 0, "size>60");
        x.line();
        x.doubts();
        x.claim(0, 0, 1, 7);
        x.act(1, 2);
        Kit.text(x, "kept");
        return x;
    }

    /** What all calls tell that change nothing. */
    private static String all(DiskEvidence x) {
        StringBuilder s = new StringBuilder();
        for (int what = 0; what < 10; what++) s.append(x.count(what)).append(' ');
        for (int p = 0; p < 2; p++) s.append(x.crc(p, 0, 1280)).append(' ').append(x.spoil(p, 0, false)).append(' ');
        for (int v = 0; v < x.count(2); v++) s.append(x.blocks(v)).append(' ');
        for (int t = 0; t < x.count(3); t++) for (int what = 0; what < 9; what++) s.append(x.tree(t, what)).append(' ');
        s.append(Kit.hits(x)).append(Kit.rows(x));
        for (int i = 0; x.time(i, 0) != -2; i++) s.append(x.time(i, 0)).append(' ');
        for (int i = 0; x.doubt(i, 0) != -2; i++) s.append(x.doubt(i, 1)).append(x.doubt(i, 2)).append(' ');
        s.append(x.claimed(0, 0)).append(x.claimed(0, 3)).append(x.chain()).append(' ').append(x.link(0));
        return s.toString();
    }

    private static Map<String, Method> methods() {
        Map<String, Method> all = new HashMap<>();
        for (Method m : DiskEvidence.class.getDeclaredMethods()) all.put(m.getName(), m);
        return all;
    }

    private static long ask(DiskEvidence x, Method m, long[] numbers) throws ReflectiveOperationException {
        Object[] values = new Object[numbers.length];
        Class<?>[] types = m.getParameterTypes();
        for (int i = 0; i < values.length; i++) {
            if (types[i] == boolean.class) values[i] = numbers[i] != 0;
            else if (types[i] == long.class) values[i] = numbers[i];
            else values[i] = (int) numbers[i];
        }
        return ((Number) m.invoke(x, values)).longValue();
    }

    private static long[] good(String[] words) {
        long[] numbers = new long[words.length - 1];
        for (int i = 1; i < words.length; i++) numbers[i - 1] = Long.parseLong(words[i].split("/")[0]);
        return numbers;
    }

    private static void numbersJustOut() throws ReflectiveOperationException {
        KIT.says("BAD goes first in all calls: a number of no PICTURE, SECTOR, VOLUME, TREE, FILE, OPEN, NODE, or out of what is told; nothing is done then.");
        DiskEvidence x = full();
        String before = all(x);
        Map<String, Method> methods = methods();
        for (String call : CALLS) {
            String[] words = call.split(" ");
            for (int i = 1; i < words.length; i++) {
                if (words[i].indexOf('/') < 0) continue;
                long[] numbers = good(words);
                long many = Long.parseLong(words[i].split("/")[1]);
                boolean mayBeNone = words[0].equals("join") && i == 4;
                numbers[i - 1] = mayBeNone ? -2 : -1;
                KIT.due(call + ", number " + i + " below its least", ask(x, methods.get(words[0]), numbers), -2);
                numbers[i - 1] = many;
                KIT.due(call + ", number " + i + " above its greatest", ask(x, methods.get(words[0]), numbers), -2);
            }
        }
        KIT.due("nothing is done", all(x), before);
        for (String call : CALLS) {
            String[] words = call.split(" ");
            if (ask(full(), methods.get(words[0]), good(words)) == -2) KIT.due(call + " is good", "BAD", "");
        }
    }

    private static void numbersFarOut() throws ReflectiveOperationException {
        KIT.says("or out of what is told; nothing is done then");
        Map<String, Method> methods = methods();
        long[] far = {MAX, MIN, MAX - 1, 1L << 24, -1L << 24, 65536, 1 << 30};
        for (long number : far) {
            DiskEvidence x = full();
            String before = all(x);
            for (String call : CALLS) {
                String[] words = call.split(" ");
                for (int i = 1; i < words.length; i++) {
                    if (words[i].indexOf('/') < 0) continue;
                    long[] numbers = good(words);
                    numbers[i - 1] = number;
                    KIT.due(call + ", number " + i + " is " + number, ask(x, methods.get(words[0]), numbers), -2);
                }
            }
            KIT.due("nothing is done", all(x), before);
        }
    }

    private static void kindsThatAreNone() {
        KIT.says("or out of what is told; nothing is done then");
        DiskEvidence x = full();
        String before = all(x);
        int[] none = {0, -1, 5, MAX, MIN};
        for (int kind : none) {
            KIT.due("join " + kind, x.join(kind, 0, 1, -1), -2);
            if (kind != 0) KIT.due("format " + (kind == 5 ? 4 : kind), x.format(2, kind == 5 ? 4 : kind, 0), -2);
            KIT.due("claim " + (kind == 5 ? 4 : kind), x.claim(0, 0, kind == 5 ? 4 : kind, 0), -2);
            KIT.due("volume of " + kind, x.volume(0, 16, kind), -2);
            KIT.due("inside of NODE " + kind, x.inside(0, kind == 5 ? 4 : kind), -2);
        }
        KIT.due("collect of 0", x.collect(7, 0), -2);
        KIT.due("collect of 9", x.collect(7, 9), -2);
        KIT.due("tick of -1", x.tick(-1), -2);
        KIT.due("blank of 0", x.blank(0), -2);
        KIT.due("blank of 129", x.blank(129), -2);
        KIT.due("crc of -1", x.crc(0, 0, -1), -2);
        KIT.due("nothing is done", all(x), before);
    }

    private static void nothingThere() throws ReflectiveOperationException {
        KIT.says("a number of no PICTURE, SECTOR, VOLUME, TREE, FILE, OPEN, NODE");
        Map<String, Method> methods = methods();
        DiskEvidence x = new DiskEvidence();
        Kit.text(x, "kept");
        for (String call : CALLS) {
            String[] words = call.split(" ");
            if (words[0].equals("count")) continue;
            KIT.due(call + " of a new object", ask(x, methods.get(words[0]), good(words)), -2);
        }
        KIT.due("COLLECTED stay", x.count(0), 4);
        for (int what = 1; what < 10; what++) KIT.due("count " + what, x.count(what), 0);
    }

    private static void fullAndBad() {
        KIT.says("BAD goes first in all calls");
        Desk x = Desk.mounted(new Image(2).entry(0, "p", '0', 2, 0).text(64, "PK"));
        for (int i = 1; i < 6; i++) x.blank(1);
        for (int i = 1; i < 12; i++) x.volume(0, 0, 2);
        for (int i = 1; i < 6; i++) x.mount(0);
        for (int i = 0; i < 8; i++) x.open(0, 0);
        for (int i = 0; i < 40; i++) x.claim(0, 0, 1, 0);
        for (int i = 0; i < 100; i++) x.act(0, 0);
        KIT.due("blank", x.blank(1) + " " + x.blank(0), "-3 -2");
        KIT.due("picture", x.picture(), -3);
        KIT.due("volume", x.volume(0, 0, 1) + " " + x.volume(0, 0, 3), "-3 -2");
        KIT.due("join", x.join(1, 0, 1, -1) + " " + x.join(1, 0, 0, -1), "-3 -2");
        KIT.due("mount", x.mount(0) + " " + x.mount(12), "-3 -2");
        KIT.due("open", x.open(0, 0) + " " + x.open(0, 1), "-3 -2");
        KIT.due("claim", x.claim(0, 0, 1, 0) + " " + x.claim(0, 1, 1, 0), "-3 -2");
        KIT.due("act", x.act(0, 0), -3);
        for (int i = 0; i < 250; i++) x.collect(0, 8);
        KIT.due("collect at 2000", x.collect(0, 8), 2008);
        StringBuilder s = new StringBuilder();
        for (int what = 1; what < 9; what++) s.append(x.count(what)).append(' ');
        KIT.due("counts", s.toString(), "6 12 6 8 0 0 40 100 ");
    }
}
