/** An object with what the tests often ask of it; it refuses a 513th call, since what that answers is free. */
final class Desk {
    private static final int MOST_CALLS = 512;
    private final DiskEvidence on = new DiskEvidence();
    private int calls;

    private void another() {
        calls++;
        if (calls > MOST_CALLS) throw new IllegalStateException("more than 512 calls");
    }

    // ---- disks

    /** So many sectors that are one volume. */
    static Desk blanks(int sectors) {
        Desk x = new Desk();
        x.blank(sectors);
        x.volume(0, 0, sectors);
        return x;
    }

    static Desk formatted(int sectors, int kind, int argument) {
        Desk x = blanks(sectors);
        x.format(0, kind, argument);
        return x;
    }

    /** A picture that is one volume. */
    static Desk of(Image image) {
        Desk x = new Desk();
        x.add(image);
        return x;
    }

    /** One more picture, and the volume that it is. */
    int add(Image image) {
        put(image.packed());
        int picture = picture();
        if (picture < 0) throw new IllegalStateException("picture " + picture);
        return volume(picture, 0, image.sectors);
    }

    /** The same, mounted. */
    static Desk mounted(Image image) {
        Desk x = of(image);
        int tree = x.mount(0);
        if (tree != 0) throw new IllegalStateException("mount " + tree);
        return x;
    }

    // ---- what is collected, and what takes it

    /** The signs of a text (0 to 255) are collected. */
    Desk put(String text) {
        for (int i = 0; i < text.length(); i += 8) {
            int n = Math.min(8, text.length() - i);
            long w = 0;
            for (int k = 0; k < n; k++) w |= (text.charAt(i + k) & 255L) << 8 * k;
            int answer = collect(w, n);
            if (answer < 0) throw new IllegalStateException("collect " + answer);
        }
        return this;
    }

    int saved(int volume, String path, String contents) {
        return put(path + "\0" + contents).save(volume);
    }

    int foldered(int volume, String path) {
        return put(path).folder(volume);
    }

    int erased(int volume, String path) {
        return put(path).erase(volume);
    }

    int found(int tree, String path) {
        return put(path).find(tree);
    }

    int worded(int tree, String word) {
        return put(word).word(tree);
    }

    int patterned(int tree, String pattern) {
        return put(pattern).pattern(tree);
    }

    int asked(int tree, String question) {
        return put(question).question(tree);
    }

    // ---- bytes

    Desk poke2(int picture, int at, int v) {
        poke(picture, at, v & 255);
        poke(picture, at + 1, v >> 8 & 255);
        return this;
    }

    Desk poke4(int picture, int at, long v) {
        poke2(picture, at, (int) (v & 65535));
        return poke2(picture, at + 2, (int) (v >> 16 & 65535));
    }

    /** A number of so many bytes of volume 0. */
    long number(int at, int n) {
        long v = 0;
        for (int i = n - 1; i >= 0; i--) v = v << 8 | volumeByte(0, at + i);
        return v;
    }

    /** So many bytes of volume 0. */
    String bytes(int at, int n) {
        StringBuilder s = new StringBuilder();
        for (int i = at; i < at + n; i++) s.append((char) volumeByte(0, i));
        return s.toString();
    }

    // ---- what trees tell

    String nameOf(int tree, int file) {
        StringBuilder s = new StringBuilder();
        for (int k = 0; ; k++) {
            int c = name(tree, file, k);
            if (c < 0) return s.toString();
            s.append((char) c);
        }
    }

    /** The NAMES of all FILES, each with a blank behind. */
    String names(int tree) {
        StringBuilder s = new StringBuilder();
        int n = tree(tree, 1) + tree(tree, 2) + tree(tree, 3) + tree(tree, 7);
        for (int file = 0; file < n; file++) s.append(nameOf(tree, file)).append(' ');
        return s.toString();
    }

    String contentOf(int tree, int file) {
        StringBuilder s = new StringBuilder();
        for (int i = 0; ; i++) {
            int c = content(tree, file, i);
            if (c < 0) return s.toString();
            s.append((char) c);
        }
    }

    String fields(int tree, int file) {
        StringBuilder s = new StringBuilder();
        for (int what = 0; what < 11; what++) s.append(field(tree, file, what)).append(' ');
        return s.toString();
    }

    String blocksOf(int tree, int file) {
        StringBuilder s = new StringBuilder();
        long n = field(tree, file, 7);
        for (int k = 0; k < n; k++) s.append(block(tree, file, k)).append(' ');
        return s.toString();
    }

    String faults(int tree) {
        StringBuilder s = new StringBuilder();
        int n = tree(tree, 4);
        for (int i = 0; i < n; i++) s.append(fault(tree, i, 0)).append(',').append(fault(tree, i, 1)).append(',').append(fault(tree, i, 2)).append(' ');
        return s.toString();
    }

    /** The OWNERS of BLOCKS, from one on and before another. */
    String owners(int tree, int from, int to) {
        StringBuilder s = new StringBuilder();
        for (int b = from; b < to; b++) s.append(owner(tree, b)).append(' ');
        return s.toString();
    }

    String runs(int tree) {
        StringBuilder s = new StringBuilder();
        int n = tree(tree, 8);
        for (int i = 0; i < n; i++) s.append(free(tree, i, 0)).append('+').append(free(tree, i, 1)).append(' ');
        return s.toString();
    }

    String nodes(int open) {
        StringBuilder s = new StringBuilder();
        int n = opened(open, 0);
        for (int i = 0; i < n; i++) {
            for (int what = 0; what < 5; what++) s.append(node(open, i, what)).append(what < 4 ? ',' : ' ');
        }
        return s.toString();
    }

    // ---- what was found

    String hits() {
        StringBuilder s = new StringBuilder();
        int n = count(5);
        for (int i = 0; i < n; i++) s.append(hit(i, 0)).append(',').append(hit(i, 1)).append(',').append(hit(i, 2)).append(' ');
        return s.toString();
    }

    String rows() {
        StringBuilder s = new StringBuilder();
        int n = count(6);
        for (int i = 0; i < n; i++) s.append(row(i)).append(' ');
        return s.toString();
    }

    String lines() {
        StringBuilder s = new StringBuilder();
        int n = line();
        for (int i = 0; i < n; i++) {
            for (int what = 0; what < 5; what++) s.append(time(i, what)).append(what < 4 ? ',' : ' ');
        }
        return s.toString();
    }

    String allDoubts() {
        StringBuilder s = new StringBuilder();
        int n = doubts();
        for (int i = 0; i < n; i++) s.append(doubt(i, 0)).append(',').append(doubt(i, 1)).append(',').append(doubt(i, 2)).append(' ');
        return s.toString();
    }

    // ---- the face

    int collect(long w, int n) {
        another();
        return on.collect(w, n);
    }

    int forget() {
        another();
        return on.forget();
    }

    int tick(int seconds) {
        another();
        return on.tick(seconds);
    }

    int blank(int sectors) {
        another();
        return on.blank(sectors);
    }

    int picture() {
        another();
        return on.picture();
    }

    int sectors(int picture) {
        another();
        return on.sectors(picture);
    }

    int spoil(int picture, int sector, boolean is) {
        another();
        return on.spoil(picture, sector, is);
    }

    int byteAt(int picture, int i) {
        another();
        return on.byteAt(picture, i);
    }

    int poke(int picture, int i, int b) {
        another();
        return on.poke(picture, i, b);
    }

    long crc(int picture, int from, int n) {
        another();
        return on.crc(picture, from, n);
    }

    int parts(int picture) {
        another();
        return on.parts(picture);
    }

    int part(int picture, int i, int what) {
        another();
        return on.part(picture, i, what);
    }

    int volume(int picture, int begin, int count) {
        another();
        return on.volume(picture, begin, count);
    }

    int join(int kind, int a, int b, int c) {
        another();
        return on.join(kind, a, b, c);
    }

    int blocks(int volume) {
        another();
        return on.blocks(volume);
    }

    int volumeByte(int volume, int i) {
        another();
        return on.volumeByte(volume, i);
    }

    int where(int volume, int block) {
        another();
        return on.where(volume, block);
    }

    int format(int volume, int kind, int argument) {
        another();
        return on.format(volume, kind, argument);
    }

    int save(int volume) {
        another();
        return on.save(volume);
    }

    int folder(int volume) {
        another();
        return on.folder(volume);
    }

    int erase(int volume) {
        another();
        return on.erase(volume);
    }

    int mount(int volume) {
        another();
        return on.mount(volume);
    }

    int tree(int tree, int what) {
        another();
        return on.tree(tree, what);
    }

    int fault(int tree, int i, int what) {
        another();
        return on.fault(tree, i, what);
    }

    int owner(int tree, int block) {
        another();
        return on.owner(tree, block);
    }

    int free(int tree, int i, int what) {
        another();
        return on.free(tree, i, what);
    }

    int find(int tree) {
        another();
        return on.find(tree);
    }

    int name(int tree, int file, int k) {
        another();
        return on.name(tree, file, k);
    }

    long field(int tree, int file, int what) {
        another();
        return on.field(tree, file, what);
    }

    int block(int tree, int file, int k) {
        another();
        return on.block(tree, file, k);
    }

    int content(int tree, int file, int i) {
        another();
        return on.content(tree, file, i);
    }

    int slack(int tree, int file, int i) {
        another();
        return on.slack(tree, file, i);
    }

    int open(int tree, int file) {
        another();
        return on.open(tree, file);
    }

    int node(int open, int i, int what) {
        another();
        return on.node(open, i, what);
    }

    int opened(int open, int what) {
        another();
        return on.opened(open, what);
    }

    int inside(int open, int i) {
        another();
        return on.inside(open, i);
    }

    int word(int tree) {
        another();
        return on.word(tree);
    }

    int pattern(int tree) {
        another();
        return on.pattern(tree);
    }

    int hit(int i, int what) {
        another();
        return on.hit(i, what);
    }

    int question(int tree) {
        another();
        return on.question(tree);
    }

    int row(int i) {
        another();
        return on.row(i);
    }

    int line() {
        another();
        return on.line();
    }

    long time(int i, int what) {
        another();
        return on.time(i, what);
    }

    int doubts() {
        another();
        return on.doubts();
    }

    int doubt(int i, int what) {
        another();
        return on.doubt(i, what);
    }

    int claim(int tree, int file, int kind, int a) {
        another();
        return on.claim(tree, file, kind, a);
    }

    int claimed(int i, int what) {
        another();
        return on.claimed(i, what);
    }

    int check(int i) {
        another();
        return on.check(i);
    }

    int act(int who, int what) {
        another();
        return on.act(who, what);
    }

    long link(int i) {
        another();
        return on.link(i);
    }

    int alter(int i, int what, int v) {
        another();
        return on.alter(i, what, v);
    }

    int chain() {
        another();
        return on.chain();
    }

    int count(int what) {
        another();
        return on.count(what);
    }
}
