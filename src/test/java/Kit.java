/** What the tests share: it counts the wrong answers and collects bytes. */
final class Kit {
    private final String title;
    private int wrong;
    private int asked;
    private String sentence = "";

    Kit(String title) {
        this.title = title;
    }

    /** The sentence of the document that the answers from here on are due by. */
    void says(String words) {
        sentence = " (" + words + ")";
        if (Document.has(words)) return;
        wrong++;
        System.out.println(title + ": the document does not say: " + words);
    }

    void due(String call, long got, long want) {
        asked++;
        if (got == want) return;
        wrong++;
        System.out.println(title + ": " + call + " answered " + got + ", due is " + want + sentence);
    }

    void due(String call, String got, String want) {
        asked++;
        if (got.equals(want)) return;
        wrong++;
        System.out.println(title + ": " + call + " answered \"" + got + "\", due is \"" + want + "\"" + sentence);
    }

    void finish() {
        System.out.println(title + ": " + asked + " answers, " + wrong + " not as due");
        if (wrong != 0) System.exit(1);
    }

    static void bytes(DiskEvidence x, byte[] bytes) {
        for (int i = 0; i < bytes.length; ) {
            long w = 0;
            int n = Math.min(8, bytes.length - i);
            for (int k = 0; k < n; k++) w |= (bytes[i + k] & 255L) << 8 * k;
            if (x.collect(w, n) < 0) throw new IllegalStateException("collect");
            i += n;
        }
    }

    /** The signs of a text as bytes (0 to 255). */
    static byte[] raw(String text) {
        byte[] bytes = new byte[text.length()];
        for (int i = 0; i < bytes.length; i++) bytes[i] = (byte) text.charAt(i);
        return bytes;
    }

    static void text(DiskEvidence x, String text) {
        bytes(x, raw(text));
    }

    static int save(DiskEvidence x, int volume, String path, String contents) {
        text(x, path + "\0" + contents);
        return x.save(volume);
    }

    static int folder(DiskEvidence x, int volume, String path) {
        text(x, path);
        return x.folder(volume);
    }

    static int erase(DiskEvidence x, int volume, String path) {
        text(x, path);
        return x.erase(volume);
    }

    static int find(DiskEvidence x, int tree, String path) {
        text(x, path);
        return x.find(tree);
    }

    static int question(DiskEvidence x, int tree, String question) {
        text(x, question);
        return x.question(tree);
    }

    static int pattern(DiskEvidence x, int tree, String pattern) {
        text(x, pattern);
        return x.pattern(tree);
    }

    static int word(DiskEvidence x, int tree, String word) {
        text(x, word);
        return x.word(tree);
    }

    /** Bytes come to a picture from a place on. */
    static void write(DiskEvidence x, int picture, int at, byte[] bytes) {
        for (int i = 0; i < bytes.length; i++) x.poke(picture, at + i, bytes[i] & 255);
    }

    static void poke2(DiskEvidence x, int picture, int at, int v) {
        x.poke(picture, at, v & 255);
        x.poke(picture, at + 1, v >> 8 & 255);
    }

    static void poke4(DiskEvidence x, int picture, int at, long v) {
        poke2(x, picture, at, (int) (v & 65535));
        poke2(x, picture, at + 2, (int) (v >> 16 & 65535));
    }

    /** A picture of so many sectors that is one volume. */
    static DiskEvidence disk(int sectors) {
        DiskEvidence x = new DiskEvidence();
        x.blank(sectors);
        x.volume(0, 0, sectors);
        return x;
    }

    /** A picture of so many sectors, full of a byte, that is one volume. */
    static DiskEvidence disk(int sectors, int full) {
        DiskEvidence x = new DiskEvidence();
        text(x, new Image(sectors).fill(0, 64 * sectors, full).packed());
        x.picture();
        x.volume(0, 0, sectors);
        return x;
    }

    static String name(DiskEvidence x, int tree, int file) {
        StringBuilder name = new StringBuilder();
        for (int k = 0; x.name(tree, file, k) >= 0; k++) name.append((char) x.name(tree, file, k));
        return name.toString();
    }

    static String content(DiskEvidence x, int tree, int file) {
        StringBuilder text = new StringBuilder();
        for (int i = 0; x.content(tree, file, i) >= 0; i++) text.append((char) x.content(tree, file, i));
        return text.toString();
    }

    /** NAMES of all FILES, each with a blank behind. */
    static String names(DiskEvidence x, int tree) {
        StringBuilder all = new StringBuilder();
        for (int file = 0; x.field(tree, file, 0) >= 0; file++) all.append(name(x, tree, file)).append(' ');
        return all.toString();
    }

    static String faults(DiskEvidence x, int tree) {
        StringBuilder all = new StringBuilder();
        for (int i = 0; i < x.tree(tree, 4); i++) {
            for (int what = 0; what < 3; what++) all.append(x.fault(tree, i, what)).append(what < 2 ? ',' : ' ');
        }
        return all.toString();
    }

    static String owners(DiskEvidence x, int tree) {
        StringBuilder all = new StringBuilder();
        for (int b = 0; x.owner(tree, b) >= 0; b++) all.append(x.owner(tree, b)).append(' ');
        return all.toString();
    }

    static String blocks(DiskEvidence x, int tree, int file) {
        StringBuilder all = new StringBuilder();
        for (int k = 0; k < x.field(tree, file, 7); k++) all.append(x.block(tree, file, k)).append(' ');
        return all.toString();
    }

    static String fields(DiskEvidence x, int tree, int file) {
        StringBuilder all = new StringBuilder();
        for (int what = 0; what < 11; what++) all.append(x.field(tree, file, what)).append(' ');
        return all.toString();
    }

    static String nodes(DiskEvidence x, int open) {
        StringBuilder all = new StringBuilder();
        for (int i = 0; i < x.opened(open, 0); i++) {
            for (int what = 0; what < 5; what++) all.append(x.node(open, i, what)).append(what < 4 ? ',' : ' ');
        }
        return all.toString();
    }

    static String hits(DiskEvidence x) {
        StringBuilder all = new StringBuilder();
        for (int i = 0; i < x.count(5); i++) {
            for (int what = 0; what < 3; what++) all.append(x.hit(i, what)).append(what < 2 ? ',' : ' ');
        }
        return all.toString();
    }

    static String rows(DiskEvidence x) {
        StringBuilder all = new StringBuilder();
        for (int i = 0; i < x.count(6); i++) all.append(x.row(i)).append(' ');
        return all.toString();
    }

    static String many(char c, int n) {
        StringBuilder all = new StringBuilder();
        for (int i = 0; i < n; i++) all.append(c);
        return all.toString();
    }

    static long crc(byte[] bytes) {
        int c = -1;
        for (byte b : bytes) {
            c ^= b & 255;
            for (int i = 0; i < 8; i++) c = (c & 1) != 0 ? c >>> 1 ^ 0xEDB88320 : c >>> 1;
        }
        return ~c & 0xFFFFFFFFL;
    }
}
