import java.util.Random;

/** Long random runs on damaged disks: no call throws or hangs, and answers stay in their bounds. */
public final class NeverThrowsTest {
    private static final String[] PATHS = {"A", "B.TXT", "DIR", "DIR/A", "DIR/B/C", "a", "b", "d", "d/a", "d/e", "d/e/f/g/h/i", "x/y", "", "/", "A/", "ABCDEFGHI"};
    private static final String[] QUESTIONS = {"size>10", "kind=1 & !name~'A' sort -made", "(made<5|altered#3)&grade=5 sort size",
        "block=4", "faults>0 sort name", "name~''", "((((kind=1))))", "size=1234567890", "depth=0 sort -block", "ki", "erased>0"};
    private static final String[] PATTERNS = {"a.*b", "[a-z]+", ".", "\\", "[", "a?b?c?", "[^a]*", "(x|y)", "..?.?.*", "", "]", "P.*K"};

    public static void main(String[] args) {
        Kit kit = new Kit("NeverThrows");
        for (int seed = 0; seed < 600; seed++) run(kit, new Random(seed));
        kit.finish();
    }

    private static void run(Kit kit, Random r) {
        DiskEvidence x = new DiskEvidence();
        try {
            prepare(x, r);
            for (int i = 0; i < 900; i++) step(x, r);
        } catch (RuntimeException e) {
            kit.due("a random run: " + e, 1, 0);
            e.printStackTrace(System.out);
        }
        kit.due("a random run", 0, 0);
    }

    private static void prepare(DiskEvidence x, Random r) {
        for (int i = 0; i < 3; i++) x.blank(8 + r.nextInt(121));
        for (int i = 0; i < 3; i++) x.volume(i, 0, x.sectors(i));
        x.join(1 + r.nextInt(4), r.nextInt(3), r.nextInt(3), r.nextInt(4) - 1);
        x.join(1 + r.nextInt(4), r.nextInt(4), r.nextInt(5) - 1, r.nextInt(5) - 1);
        x.join(1 + r.nextInt(4), r.nextInt(6) - 1, r.nextInt(6) - 1, r.nextInt(6) - 1);
        for (int v = 0; v < x.count(2); v++) x.format(v, 1 + r.nextInt(3), r.nextBoolean() ? 0 : 1 + r.nextInt(32));
    }

    private static int number(Random r, int most) {
        switch (r.nextInt(12)) {
            case 0: return -r.nextInt(4);
            case 1: return r.nextInt();
            case 2: return Integer.MAX_VALUE - r.nextInt(2);
            case 3: return Integer.MIN_VALUE + r.nextInt(2);
            default: return r.nextInt(most);
        }
    }

    private static void collect(DiskEvidence x, Random r) {
        switch (r.nextInt(6)) {
            case 0: Kit.text(x, PATHS[r.nextInt(PATHS.length)]); break;
            case 1: Kit.text(x, PATHS[r.nextInt(PATHS.length)] + "\0" + Kit.many((char) r.nextInt(256), r.nextInt(500))); break;
            case 2: Kit.text(x, PATHS[r.nextInt(PATHS.length)] + "\0" + Formats.any(r)); break;
            case 3: x.collect(r.nextLong(), number(r, 9)); break;
            case 4: Kit.text(x, QUESTIONS[r.nextInt(QUESTIONS.length)]); break;
            default: Kit.text(x, PATTERNS[r.nextInt(PATTERNS.length)]); break;
        }
    }

    private static void step(DiskEvidence x, Random r) {
        if (x.count(0) > 3000) x.forget();
        int a = number(r, 7);
        int b = number(r, 40);
        int c = number(r, 12);
        switch (r.nextInt(40)) {
            case 0: x.tick(number(r, 1000)); break;
            case 1: x.picture(); break;
            case 2: x.spoil(a, b, r.nextInt(4) == 0); break;
            case 3: case 4: x.poke(r.nextInt(3), r.nextInt(8192), r.nextInt(256)); break;
            case 5: x.poke(r.nextInt(3), r.nextInt(1024), r.nextInt(40)); break;
            case 6: x.crc(a, b, number(r, 9000)); break;
            case 7: x.parts(a); x.part(a, b, c); break;
            case 8: x.volume(a, b, c); break;
            case 9: x.join(number(r, 6), a, b, c); break;
            case 10: x.volumeByte(a, number(r, 9000)); x.where(a, b); x.blocks(a); break;
            case 11: x.format(a, number(r, 4), number(r, 40)); break;
            case 12: case 13: case 14: case 15: collect(x, r); x.save(a); break;
            case 16: collect(x, r); x.folder(a); break;
            case 17: collect(x, r); x.erase(a); break;
            case 18: x.mount(a); break;
            case 19: x.tree(a, c); x.fault(a, b, c); x.owner(a, b); x.free(a, b, c); break;
            case 20: collect(x, r); x.find(a); break;
            case 21: x.name(a, b, c); x.field(a, b, c); x.block(a, b, c); break;
            case 22: x.content(a, b, number(r, 300)); x.slack(a, b, number(r, 300)); break;
            case 23: case 24: x.open(a, b); break;
            case 25: x.node(a, b, c); x.opened(a, c); break;
            case 26: x.inside(a, b); break;
            case 27: collect(x, r); x.word(a); x.hit(b, c); break;
            case 28: collect(x, r); x.pattern(a); x.hit(b, c); break;
            case 29: collect(x, r); x.question(a); x.row(b); break;
            case 30: x.line(); x.time(b, c); break;
            case 31: x.doubts(); x.doubt(b, c); break;
            case 32: x.claim(a, b, number(r, 5), number(r, 500)); break;
            case 33: x.claimed(b, c); x.check(b); break;
            case 34: x.act(a, b); x.link(b); break;
            case 35: x.alter(b, c, a); x.chain(); break;
            case 36: x.count(number(r, 11)); break;
            case 37: x.byteAt(a, number(r, 9000)); x.sectors(a); break;
            case 38: x.collect(r.nextLong(), c); break;
            default: x.blank(b); break;
        }
    }
}
