import java.util.Arrays;

/** A house for what is found on disks; the document tells what each call answers. */
public final class DiskEvidence {
    public static final int NONE = -1, BAD = -2, FULL = -3, PATH = -4, FORM = -5;

    private static final int SIZE = 64;
    private static final int MOST_COLLECTED = 4000, MOST_PICTURES = 6, MOST_SECTORS = 128;
    private static final int MOST_VOLUMES = 12, MOST_BLOCKS = 256, MOST_TREES = 6, MOST_OPEN = 8;
    private static final int MOST_LIVING = 60, MOST_LOST = 40, MOST_CUT = 20, MOST_WITHIN = 30;
    private static final int MOST_FILES = 150, MOST_FAULTS = 100, MOST_CLAIMS = 40, CLAIM_WIDTH = 6;
    private static final int MOST_ACTS = 100, ACT_WIDTH = 3;
    private static final int MOST_SECONDS = 1000000000, LAST_MOMENT = 2000000000;

    private static final int CELLS = 1, NODES = 2, TAPE = 3, CUT = 4, WITHIN = 5;
    private static final int A_FILE = 1, A_FOLDER = 2;
    private static final int CELL_UNFIT = 0xFFF7, CELL_END = 0xFFF8, CELL_LAST = 0xFFFF;
    private static final int ERASED_ROW = 0xE5;
    private static final int MOST_NODES = 64, NODE_PLACES = 39, OWN_PLACES = 7, DEEPEST = 5;
    private static final int HEAD_OWNER = 1, TABLE_OWNER = 2, ROOT_OWNER = 3, HEADER_OWNER = 4;
    private static final int TAKEN_OWNER = 5, FILE_OWNER = 16;

    private static final int[] CRC_STEPS = {
        0x00000000, 0x1DB71064, 0x3B6E20C8, 0x26D930AC, 0x76DC4190, 0x6B6B51F4, 0x4DB26158, 0x5005713C,
        0xEDB88320, 0xF00F9344, 0xD6D6A3E8, 0xCB61B38C, 0x9B64C2B0, 0x86D3D2D4, 0xA00AE278, 0xBDBDF21C};
    private static final int[] NO_BLOCKS = {};
    private static final byte[] NO_BYTES = {};

    private final byte[] collected = new byte[MOST_COLLECTED];
    private int collectedCount;
    private int now;
    private final Picture[] pictures = new Picture[MOST_PICTURES];
    private int pictureCount;
    private final Volume[] volumes = new Volume[MOST_VOLUMES];
    private int volumeCount;
    private final Tree[] trees = new Tree[MOST_TREES];
    private int treeCount;
    private final Opening[] openings = new Opening[MOST_OPEN];
    private int openingCount;
    private final int[] claims = new int[MOST_CLAIMS * CLAIM_WIDTH];
    private int claimCount;
    private final Maker maker = new Maker();
    private final Finder finder = new Finder();
    private final Query query = new Query();
    private final TimeLine timeLine = new TimeLine();
    private final int[] acts = new int[MOST_ACTS * ACT_WIDTH];
    private final long[] links = new long[MOST_ACTS];
    private int actCount;

    public DiskEvidence() {
    }

    // ---- bytes and pictures

    public int collect(long w, int n) {
        if (n < 1 || n > 8) return BAD;
        if (collectedCount + n > MOST_COLLECTED) return FULL;
        for (int i = 0; i < n; i++) collected[collectedCount + i] = (byte) (w >>> 8 * i);
        collectedCount += n;
        return collectedCount;
    }

    public int forget() {
        int had = collectedCount;
        collectedCount = 0;
        return had;
    }

    public int tick(int seconds) {
        if (seconds < 0 || seconds > MOST_SECONDS || seconds > LAST_MOMENT - now) return BAD;
        now += seconds;
        return now;
    }

    public int blank(int sectors) {
        if (sectors < 1 || sectors > MOST_SECTORS) return BAD;
        if (pictureCount >= MOST_PICTURES) return FULL;
        pictures[pictureCount] = new Picture(sectors);
        return pictureCount++;
    }

    public int picture() {
        if (pictureCount >= MOST_PICTURES) return FULL;
        int length = forget();
        int wrong = packedFault(collected, length);
        if (wrong >= 0) return -100 - wrong;
        pictures[pictureCount] = unpacked(collected);
        return pictureCount++;
    }

    public int sectors(int picture) {
        Picture p = pictureAt(picture);
        return p == null ? BAD : p.sectorCount;
    }

    public int spoil(int picture, int sector, boolean is) {
        Picture p = pictureAt(picture);
        if (p == null || sector < 0 || sector >= p.sectorCount) return BAD;
        boolean was = p.spoilt[sector];
        p.spoilt[sector] = is;
        return was ? 1 : 0;
    }

    public int byteAt(int picture, int i) {
        Picture p = pictureAt(picture);
        return p == null || !p.hasByte(i) ? BAD : p.readByte(i);
    }

    public int poke(int picture, int i, int b) {
        Picture p = pictureAt(picture);
        if (p == null || !p.hasByte(i) || b < 0 || b > 255) return BAD;
        int was = p.readByte(i);
        p.writeByte(i, b);
        return was;
    }

    public long crc(int picture, int from, int n) {
        Picture p = pictureAt(picture);
        if (p == null || from < 0 || n < 0 || from > p.bytes.length || n > p.bytes.length - from) return BAD;
        int c = -1;
        for (int i = from; i < from + n; i++) c = crcStep(c, p.readByte(i));
        return ~c & 0xFFFFFFFFL;
    }

    // ---- volumes

    public int parts(int picture) {
        Picture p = pictureAt(picture);
        return p == null ? BAD : p.listParts();
    }

    public int part(int picture, int i, int what) {
        Picture p = pictureAt(picture);
        if (p == null || i < 0 || i >= p.listParts() || what < 0 || what > 5) return BAD;
        return p.partFact(i, what);
    }

    public int volume(int picture, int begin, int count) {
        Picture p = pictureAt(picture);
        if (p == null || begin < 0 || count < 1 || begin > p.sectorCount || count > p.sectorCount - begin) return BAD;
        if (volumeCount >= MOST_VOLUMES) return FULL;
        volumes[volumeCount] = new Volume(p, picture, begin, count);
        return volumeCount++;
    }

    public int join(int kind, int a, int b, int c) {
        if (!maybeVolume(a) || !maybeVolume(b) || !maybeVolume(c)) return BAD;
        if (a == b && a != NONE || b == c && b != NONE || a == c && a != NONE) return BAD;
        int there = (a == NONE ? 0 : 1) + (b == NONE ? 0 : 1) + (c == NONE ? 0 : 1);
        boolean row = (kind == Volume.LINE || kind == Volume.STRIPES) && a != NONE && b != NONE;
        boolean mirror = kind == Volume.MIRROR && c == NONE && there >= 1;
        boolean parity = kind == Volume.PARITY && there >= 2;
        if (!row && !mirror && !parity) return BAD;
        Volume joined = new Volume(kind, volumeAt(a), volumeAt(b), volumeAt(c));
        if (volumeCount >= MOST_VOLUMES || joined.size > MOST_BLOCKS) return FULL;
        volumes[volumeCount] = joined;
        return volumeCount++;
    }

    public int blocks(int volume) {
        Volume v = volumeAt(volume);
        return v == null ? BAD : v.size;
    }

    public int volumeByte(int volume, int i) {
        Volume v = volumeAt(volume);
        if (v == null || i < 0 || i >= v.size * SIZE) return BAD;
        readBlock(v, i / SIZE, maker.rooms, 0);
        return u8(maker.rooms, i % SIZE);
    }

    public int where(int volume, int block) {
        Volume v = volumeAt(volume);
        if (v == null || block < 0 || block >= v.size) return BAD;
        return placeOfBlock(v, block, 0);
    }

    // ---- the maker

    public int format(int volume, int kind, int argument) {
        Volume v = volumeAt(volume);
        if (v == null || !maker.mayFormat(kind, argument)) return BAD;
        return maker.makeForm(v, kind, argument, now);
    }

    public int save(int volume) {
        Volume v = volumeAt(volume);
        if (v == null) return BAD;
        return maker.carryOut(v, Maker.SAVE, collected, forget(), now);
    }

    public int folder(int volume) {
        Volume v = volumeAt(volume);
        if (v == null) return BAD;
        return maker.carryOut(v, Maker.FOLDER, collected, forget(), now);
    }

    public int erase(int volume) {
        Volume v = volumeAt(volume);
        if (v == null) return BAD;
        return maker.carryOut(v, Maker.ERASE, collected, forget(), now);
    }

    // ---- trees

    public int mount(int volume) {
        Volume v = volumeAt(volume);
        if (v == null) return BAD;
        if (treeCount >= MOST_TREES) return FULL;
        maker.look(v);
        if (maker.form.kind == 0) return FORM;
        Tree t = new Tree(Arrays.copyOf(maker.image, v.size * SIZE), v.size, volume);
        Reader reader = new Reader(t);
        t.form.readFrom(t.image, v.size);
        if (t.form.kind == CELLS) reader.readCells();
        else if (t.form.kind == NODES) reader.readNodes();
        else reader.readTape();
        reader.cutOut();
        trees[treeCount] = t;
        return treeCount++;
    }

    public int tree(int tree, int what) {
        Tree t = treeAt(tree);
        return t == null ? BAD : t.fact(what);
    }

    public int fault(int tree, int i, int what) {
        Tree t = treeAt(tree);
        if (t == null || i < 0 || i >= t.faultCount || what < 0 || what > 2) return BAD;
        return t.faults[3 * i + what];
    }

    public int owner(int tree, int block) {
        Tree t = treeAt(tree);
        return t == null || block < 0 || block >= t.owners.length ? BAD : t.owners[block];
    }

    public int free(int tree, int i, int what) {
        Tree t = treeAt(tree);
        if (t == null || i < 0 || i >= t.freeRuns() || what < 0 || what > 1) return BAD;
        int begin = t.freeRun(i);
        return what == 0 ? begin : t.runEnd(begin) - begin;
    }

    public int find(int tree) {
        Tree t = treeAt(tree);
        if (t == null) return BAD;
        return t.findLiving(collected, forget());
    }

    public int name(int tree, int file, int k) {
        Item f = itemIn(treeAt(tree), file);
        if (f == null) return BAD;
        return k < 0 || k >= f.letters.length ? NONE : f.letters[k] & 255;
    }

    public long field(int tree, int file, int what) {
        Item f = itemIn(treeAt(tree), file);
        return f == null ? BAD : f.fact(what);
    }

    public int block(int tree, int file, int k) {
        Item f = itemIn(treeAt(tree), file);
        return f == null ? BAD : f.blockAt(k);
    }

    public int content(int tree, int file, int i) {
        Tree t = treeAt(tree);
        Item f = itemIn(t, file);
        if (t == null || f == null) return BAD;
        return i < 0 || i >= f.size ? NONE : t.byteOf(f, i);
    }

    public int slack(int tree, int file, int i) {
        Tree t = treeAt(tree);
        Item f = itemIn(t, file);
        if (t == null || f == null) return BAD;
        return i < 0 || i >= SIZE * f.blocks.length - f.size ? NONE : t.byteOf(f, f.size + i);
    }

    // ---- formats

    public int open(int tree, int file) {
        Tree t = treeAt(tree);
        Item f = itemIn(t, file);
        if (t == null || f == null) return BAD;
        if (openingCount >= MOST_OPEN) return FULL;
        byte[] room = maker.image;
        int length = t.copyBytes(f, room, Opening.MOST_BYTES);
        int format = Opening.formatOf(room, 0, length);
        if (format == 0) return FORM;
        Opening o = new Opening(tree, file, Opening.MOST_PARTS);
        o.parse(room, 0, length, format);
        openings[openingCount] = o;
        return openingCount++;
    }

    public int node(int open, int i, int what) {
        Opening o = openingAt(open);
        if (o == null || i < 0 || i >= o.nodeCount || what < 0 || what > 4) return BAD;
        return o.nodeFact(i, what);
    }

    public int opened(int open, int what) {
        Opening o = openingAt(open);
        if (o == null) return BAD;
        if (what == 0) return o.nodeCount;
        if (what == 1) return o.leftOver();
        if (what == 2) return o.treeNumber;
        return what == 3 ? o.fileNumber : BAD;
    }

    public int inside(int open, int i) {
        Opening o = openingAt(open);
        if (o == null || i < 0 || i >= o.nodeCount || o.nodeFact(i, 0) != Opening.BYTES) return BAD;
        Tree t = treeAt(o.treeNumber);
        return t == null ? BAD : t.takeInside(o, i);
    }

    // ---- finding

    public int word(int tree) {
        Tree t = treeAt(tree);
        if (t == null) return BAD;
        return finder.findWord(t, collected, forget(), maker.image);
    }

    public int pattern(int tree) {
        Tree t = treeAt(tree);
        if (t == null) return BAD;
        return finder.findPattern(t, collected, forget(), maker.image);
    }

    public int hit(int i, int what) {
        if (i < 0 || i >= finder.hitCount || what < 0 || what > 2) return BAD;
        return finder.hits[3 * i + what];
    }

    public int question(int tree) {
        Tree t = treeAt(tree);
        if (t == null) return BAD;
        return query.ask(t, collected, forget());
    }

    public int row(int i) {
        return i < 0 || i >= query.rowCount ? BAD : query.rows[i];
    }

    // ---- times, claims, acts

    public int line() {
        timeLine.momentCount = 0;
        for (int i = 0; i < treeCount; i++) {
            Tree t = trees[i];
            if (t == null) continue;
            for (int file = 0; file < t.total; file++) {
                timeLine.addMoments(t, i, file);
                for (int k = 0; k < openingCount; k++) timeLine.addNodes(openings[k], i, file);
            }
        }
        timeLine.sortMoments();
        return timeLine.momentCount;
    }

    public long time(int i, int what) {
        if (i < 0 || i >= timeLine.momentCount || what < 0 || what > 4) return BAD;
        return timeLine.momentFact(i, what);
    }

    public int doubts() {
        timeLine.doubtCount = 0;
        for (int i = 0; i < treeCount; i++) timeLine.addDoubts(trees[i], i, now);
        return timeLine.doubtCount;
    }

    public int doubt(int i, int what) {
        if (i < 0 || i >= timeLine.doubtCount || what < 0 || what > 2) return BAD;
        return timeLine.doubtFact(i, what);
    }

    public int claim(int tree, int file, int kind, int a) {
        Tree t = treeAt(tree);
        Item f = itemIn(t, file);
        if (t == null || f == null || f.sort == WITHIN || kind < 1 || kind > 3 || kind == 2 && a < 0) return BAD;
        Item other = kind == 3 ? itemIn(t, a) : f;
        if (other == null || other.sort == WITHIN) return BAD;
        if (claimCount >= MOST_CLAIMS) return FULL;
        Volume v = volumeAt(t.volumeNumber);
        int at = claimCount * CLAIM_WIDTH;
        claims[at] = Math.min(gradeNow(v, f), gradeNow(v, other));
        claims[at + 1] = kind;
        claims[at + 2] = file;
        claims[at + 3] = a;
        claims[at + 4] = t.volumeNumber;
        claims[at + 5] = tree;
        return claimCount++;
    }

    public int claimed(int i, int what) {
        if (i < 0 || i >= claimCount || what < 0 || what > 4) return BAD;
        return claims[i * CLAIM_WIDTH + what];
    }

    public int check(int i) {
        if (i < 0 || i >= claimCount) return BAD;
        int at = i * CLAIM_WIDTH;
        Tree t = treeAt(claims[at + 5]);
        Volume v = volumeAt(claims[at + 4]);
        Item f = itemIn(t, claims[at + 2]);
        if (v == null || f == null) return BAD;
        int a = claims[at + 3];
        readNow(v, f, maker.image);
        if (claims[at + 1] == 1) return crcOf(maker.image, 0, f.size) == a ? 1 : 0;
        if (claims[at + 1] == 2) return a / 256 < f.size && u8(maker.image, a / 256) == a % 256 ? 1 : 0;
        Item other = itemIn(t, a);
        if (other == null || other.size != f.size) return 0;
        readNow(v, other, maker.before);
        return sameBytes(maker.image, 0, maker.before, 0, f.size) ? 1 : 0;
    }

    public int act(int who, int what) {
        if (actCount >= MOST_ACTS) return FULL;
        int at = actCount * ACT_WIDTH;
        acts[at] = who;
        acts[at + 1] = what;
        acts[at + 2] = now;
        links[actCount] = dueLink(actCount);
        return actCount++;
    }

    public long link(int i) {
        return i < 0 || i >= actCount ? 0 : links[i];
    }

    public int alter(int i, int what, int v) {
        if (i < 0 || i >= actCount || what < 0 || what > 2) return BAD;
        int was = acts[i * ACT_WIDTH + what];
        acts[i * ACT_WIDTH + what] = v;
        return was;
    }

    public int chain() {
        for (int i = 0; i < actCount; i++) {
            if (links[i] != dueLink(i)) return i;
        }
        return NONE;
    }

    public int count(int what) {
        switch (what) {
            case 0: return collectedCount;
            case 1: return pictureCount;
            case 2: return volumeCount;
            case 3: return treeCount;
            case 4: return openingCount;
            case 5: return finder.hitCount;
            case 6: return query.rowCount;
            case 7: return claimCount;
            case 8: return actCount;
            case 9: return now;
            default: return BAD;
        }
    }

    // ---- what the calls share

    private Picture pictureAt(int i) {
        return i < 0 || i >= pictureCount ? null : pictures[i];
    }

    private Volume volumeAt(int i) {
        return i < 0 || i >= volumeCount ? null : volumes[i];
    }

    private boolean maybeVolume(int i) {
        return i == NONE || i >= 0 && i < volumeCount;
    }

    private Tree treeAt(int i) {
        return i < 0 || i >= treeCount ? null : trees[i];
    }

    private Opening openingAt(int i) {
        return i < 0 || i >= openingCount ? null : openings[i];
    }

    private static Item itemIn(Tree t, int i) {
        return t == null || i < 0 || i >= t.total ? null : t.items[i];
    }

    /** The LINK that an ACT and the LINK before give. */
    private long dueLink(int i) {
        if (i < 0 || i >= MOST_ACTS) return 0;
        long x = (i == 0 ? 1L : links[i - 1]) * -7046029254386353131L + acts[i * ACT_WIDTH];
        x = (x ^ x >>> 29) * -4658895280553007687L + acts[i * ACT_WIDTH + 1];
        x = (x ^ x >>> 32) * -7723592293110705685L + acts[i * ACT_WIDTH + 2];
        return x ^ x >>> 31;
    }

    /** The GRADE of a FILE, less what spoilt SECTORS take from it. */
    private static int gradeNow(Volume v, Item f) {
        for (int i = 0; i < f.blocks.length; i++) {
            if (f.blocks[i] >= 0 && isSpoilt(v, f.blocks[i], 0)) return Math.max(0, f.grade - 1);
        }
        return f.grade;
    }

    /** The bytes of a FILE'S BLOCKS as the VOLUME has them now. */
    private static void readNow(Volume v, Item f, byte[] into) {
        for (int i = 0; i < f.blocks.length && (i + 1) * SIZE <= into.length; i++) {
            if (f.blocks[i] >= 0) readBlock(v, f.blocks[i], into, i * SIZE);
            else clear(into, i * SIZE, SIZE);
        }
    }

    // ---- bytes

    private static int u8(byte[] a, int i) {
        return i >= 0 && i < a.length ? a[i] & 255 : 0;
    }

    private static int u16(byte[] a, int i) {
        return i >= 0 && i < a.length - 1 ? a[i] & 255 | (a[i + 1] & 255) << 8 : 0;
    }

    private static int u32(byte[] a, int i) {
        if (i < 0 || i >= a.length - 3) return 0;
        return a[i] & 255 | (a[i + 1] & 255) << 8 | (a[i + 2] & 255) << 16 | (a[i + 3] & 255) << 24;
    }

    private static long unsigned(int v) {
        return v & 0xFFFFFFFFL;
    }

    private static void put8(byte[] a, int i, int v) {
        if (i >= 0 && i < a.length) a[i] = (byte) v;
    }

    private static void put16(byte[] a, int i, int v) {
        if (i < 0 || i >= a.length - 1) return;
        a[i] = (byte) v;
        a[i + 1] = (byte) (v >>> 8);
    }

    private static void put32(byte[] a, int i, int v) {
        put16(a, i, v);
        put16(a, i + 2, v >>> 16);
    }

    private static void clear(byte[] a, int from, int n) {
        if (from < 0 || n < 0 || n > a.length - from) return;
        Arrays.fill(a, from, from + n, (byte) 0);
    }

    private static boolean sameBytes(byte[] a, int i, byte[] b, int k, int n) {
        if (i < 0 || k < 0 || n > a.length - i || n > b.length - k) return false;
        for (int d = 0; d < n; d++) {
            if (a[i + d] != b[k + d]) return false;
        }
        return true;
    }

    private static boolean isZero(byte[] a, int from, int n) {
        for (int i = from; i < from + n; i++) {
            if (u8(a, i) != 0) return false;
        }
        return true;
    }

    /** How many of n bytes are left without those at the end that are a filler. */
    private static int lengthWithout(byte[] a, int from, int n, int filler) {
        if (from < 0 || n < 0 || n > a.length - from) return 0;
        int length = n;
        while (length > 0 && a[from + length - 1] == filler) length--;
        return length;
    }

    private static int blocksFor(int bytes) {
        return bytes <= 0 ? 0 : (bytes - 1) / SIZE + 1;
    }

    private static int crcStep(int before, int b) {
        int c = before ^ b;
        c = CRC_STEPS[c & 15] ^ c >>> 4;
        return CRC_STEPS[c & 15] ^ c >>> 4;
    }

    private static int crcOf(byte[] a, int from, int to) {
        int c = -1;
        for (int i = from; i < to; i++) c = crcStep(c, u8(a, i));
        return ~c;
    }

    // ---- packed pictures

    /** The first place that is not as told; NONE if all is. */
    private static int packedFault(byte[] a, int length) {
        if (length < 1 || a[0] != 'P') return 0;
        if (length < 2 || a[1] != 'X') return 1;
        if (length < 4) return length;
        int count = u16(a, 2);
        if (count < 1 || count > MOST_SECTORS) return 2;
        int at = 4;
        for (int i = 0; i < count; i++) {
            if (at >= length) return length;
            int need = packedSize(u8(a, at));
            if (need == 0) return at;
            if (need > length - at) return length;
            at += need;
        }
        if (at + 4 > length) return length;
        if (u32(a, at) != crcOf(a, 0, at)) return at;
        return at + 4 < length ? at + 4 : NONE;
    }

    private static int packedSize(int code) {
        if (code == 1) return 1 + SIZE;
        if (code == 2) return 2;
        return code == 0 || code == 3 ? 1 : 0;
    }

    private static Picture unpacked(byte[] a) {
        Picture p = new Picture(u16(a, 2));
        int at = 4;
        for (int i = 0; i < p.sectorCount; i++) {
            int code = u8(a, at);
            for (int k = 0; k < SIZE && code != 0; k++) {
                if (code == 1) p.writeByte(i * SIZE + k, u8(a, at + 1 + k));
                if (code == 2) p.writeByte(i * SIZE + k, u8(a, at + 1));
            }
            p.spoilt[i] = code == 3;
            at += packedSize(code);
        }
        return p;
    }

    /** A picture of a disk: SECTORS, some of them SPOILT. */
    private static final class Picture {
        private static final int MOST_TABLES = 16, TABLE_ROWS = 4, PART_WIDTH = 4;
        private static final int FURTHER = 5;

        final int sectorCount;
        final byte[] bytes;
        final boolean[] spoilt;
        private final int[] tables = new int[MOST_TABLES];
        private int tableCount;
        private final int[] partFacts = new int[MOST_TABLES * TABLE_ROWS * PART_WIDTH];
        private int partCount;

        Picture(int sectorCount) {
            this.sectorCount = sectorCount;
            bytes = new byte[sectorCount * SIZE];
            spoilt = new boolean[sectorCount];
        }

        boolean hasByte(int i) {
            return i >= 0 && i < bytes.length;
        }

        boolean isLost(int sector) {
            return sector < 0 || sector >= sectorCount || spoilt[sector];
        }

        int readByte(int i) {
            return isLost(i / SIZE) ? 0 : u8(bytes, i);
        }

        void writeByte(int i, int b) {
            if (!isLost(i / SIZE)) put8(bytes, i, b);
        }

        void xorSector(int sector, byte[] into, int at) {
            if (sector < 0 || sector >= sectorCount || spoilt[sector] || at < 0 || at > into.length - SIZE) return;
            for (int i = 0; i < SIZE; i++) into[at + i] ^= bytes[sector * SIZE + i];
        }

        void copySector(int sector, byte[] into, int at) {
            if (sector < 0 || sector >= sectorCount || spoilt[sector] || at < 0 || at > into.length - SIZE) return;
            System.arraycopy(bytes, sector * SIZE, into, at, SIZE);
        }

        void storeSector(int sector, byte[] from, int at) {
            if (sector < 0 || sector >= sectorCount || spoilt[sector] || at < 0 || at > from.length - SIZE) return;
            System.arraycopy(from, at, bytes, sector * SIZE, SIZE);
        }

        int listParts() {
            tableCount = 0;
            partCount = 0;
            if (mayBeTable(0)) readTable(this, 0, 1);
            return partCount;
        }

        private boolean mayBeTable(int sector) {
            if (sector < 0 || sector >= sectorCount || tableCount >= MOST_TABLES) return false;
            for (int i = 0; i < tableCount; i++) {
                if (tables[i] == sector) return false;
            }
            return readByte(sector * SIZE + 62) == 0x55 && readByte(sector * SIZE + 63) == 0xAA;
        }

        private static void readTable(Picture p, int sector, int depth) {
            if (depth > MOST_TABLES || p.tableCount >= MOST_TABLES) return;
            p.tables[p.tableCount++] = sector;
            for (int row = 0; row < TABLE_ROWS; row++) {
                int at = sector * SIZE + 16 + 8 * row;
                int kind = p.readByte(at);
                int first = sector + p.readByte(at + 2) + 256 * p.readByte(at + 3);
                if (kind == FURTHER) {
                    if (p.mayBeTable(first)) readTable(p, first, depth + 1);
                } else if (kind != 0) {
                    p.addPart(kind, first, p.readByte(at + 4) + 256 * p.readByte(at + 5), sector);
                }
            }
        }

        private void addPart(int kind, int first, int size, int table) {
            int at = partCount * PART_WIDTH;
            if (at + PART_WIDTH > partFacts.length) return;
            partFacts[at] = kind;
            partFacts[at + 1] = first;
            partFacts[at + 2] = size;
            partFacts[at + 3] = table;
            partCount++;
        }

        int partFact(int i, int what) {
            int at = i * PART_WIDTH;
            if (at < 0 || at + PART_WIDTH > partFacts.length) return BAD;
            if (what < PART_WIDTH) return partFacts[at + what];
            if (what == 4) return partFacts[at + 1] + partFacts[at + 2] > sectorCount ? 1 : 0;
            for (int other = 0; other < partCount; other++) {
                if (other != i && haveCommon(at, other * PART_WIDTH)) return other;
            }
            return NONE;
        }

        private boolean haveCommon(int a, int b) {
            int begin = Math.max(partFacts[a + 1], partFacts[b + 1]);
            int end = Math.min(partFacts[a + 1] + partFacts[a + 2], partFacts[b + 1] + partFacts[b + 2]);
            return begin < end;
        }
    }

    /** BLOCKS of a PICTURE, or of earlier VOLUMES that are joined. */
    private static final class Volume {
        static final int LINE = 1, STRIPES = 2, MIRROR = 3, PARITY = 4;

        final int kind, size, begin, pictureNumber;
        final Picture base;
        final Volume first, second, third;

        Volume(Picture base, int pictureNumber, int begin, int size) {
            this.kind = 0;
            this.size = size;
            this.begin = begin;
            this.pictureNumber = pictureNumber;
            this.base = base;
            first = null;
            second = null;
            third = null;
        }

        Volume(int kind, Volume first, Volume second, Volume third) {
            this.kind = kind;
            this.begin = 0;
            this.pictureNumber = NONE;
            this.base = null;
            this.first = first;
            this.second = second;
            this.third = third;
            int a = first == null ? 0 : first.size;
            int b = second == null ? 0 : second.size;
            int c = third == null ? 0 : third.size;
            int least = MOST_BLOCKS;
            if (first != null) least = Math.min(least, a);
            if (second != null) least = Math.min(least, b);
            if (third != null) least = Math.min(least, c);
            if (kind == LINE) size = a + b + c;
            else if (kind == STRIPES) size = (third == null ? 2 : 3) * least;
            else size = kind == PARITY ? 2 * least : least;
        }

        Volume member(int i) {
            if (i == 0) return first;
            return i == 1 ? second : third;
        }

        /** The member that has a BLOCK; null: it is missing. */
        Volume home(int block) {
            int i = 0;
            if (kind == STRIPES) {
                i = block % (third == null ? 2 : 3);
            } else if (kind == MIRROR) {
                i = first == null ? 1 : 0;
            } else if (kind == PARITY) {
                int parity = block / 2 % 3;
                boolean even = block % 2 == 0;
                i = even ? parity == 0 ? 1 : 0 : parity == 2 ? 1 : 2;
            } else if (first != null && block >= first.size) {
                i = second != null && block - first.size >= second.size ? 2 : 1;
            }
            if (i == 0) return first;
            return i == 1 ? second : third;
        }

        /** The number that a BLOCK has in its member. */
        int homeBlock(int block) {
            if (kind == STRIPES) return block / (third == null ? 2 : 3);
            if (kind == MIRROR) return block;
            if (kind == PARITY) return block / 2;
            if (first == null || block < first.size) return block;
            if (second == null || block - first.size < second.size) return block - first.size;
            return block - first.size - second.size;
        }
    }

    private static void readBlock(Volume v, int block, byte[] into, int at) {
        clear(into, at, SIZE);
        Volume here = v;
        int b = block;
        for (int depth = 0; depth < MOST_VOLUMES && here != null; depth++) {
            if (here.base != null) {
                here.base.copySector(here.begin + b, into, at);
                return;
            }
            Volume home = here.home(b);
            if (home == null) break;
            b = here.homeBlock(b);
            here = home;
        }
        xorBlock(here, b, into, at, 0);
    }

    private static void xorBlock(Volume v, int block, byte[] into, int at, int depth) {
        if (v == null || depth > MOST_VOLUMES || block < 0 || block >= v.size) return;
        if (v.base != null) {
            v.base.xorSector(v.begin + block, into, at);
            return;
        }
        Volume home = v.home(block);
        if (home != null) {
            xorBlock(home, v.homeBlock(block), into, at, depth + 1);
            return;
        }
        // The missing member has nothing to give: what is left are the other two.
        for (int i = 0; i < 3; i++) xorBlock(v.member(i), block / 2, into, at, depth + 1);
    }

    private static void writeBlock(Volume v, int block, byte[] from, int at, byte[] rooms, int depth) {
        if (v == null || depth > MOST_VOLUMES || block < 0 || block >= v.size) return;
        if (v.base != null) {
            v.base.storeSector(v.begin + block, from, at);
        } else if (v.kind == Volume.MIRROR) {
            writeBlock(v.first, block, from, at, rooms, depth + 1);
            writeBlock(v.second, block, from, at, rooms, depth + 1);
        } else if (v.kind == Volume.PARITY) {
            writeParity(v, block, from, at, rooms, depth);
        } else {
            writeBlock(v.home(block), v.homeBlock(block), from, at, rooms, depth + 1);
        }
    }

    private static void writeParity(Volume v, int block, byte[] from, int at, byte[] rooms, int depth) {
        int room = depth * SIZE;
        if (room < 0 || room + SIZE > rooms.length || at < 0 || at + SIZE > from.length) return;
        clear(rooms, room, SIZE);
        xorBlock(v, block ^ 1, rooms, room, depth);
        for (int i = 0; i < SIZE; i++) rooms[room + i] ^= from[at + i];
        writeBlock(v.home(block), block / 2, from, at, rooms, depth + 1);
        writeBlock(v.member(block / 2 % 3), block / 2, rooms, room, rooms, depth + 1);
    }

    private static int placeOfBlock(Volume v, int block, int depth) {
        if (v == null || depth > MOST_VOLUMES) return NONE;
        if (v.base != null) return 1000 * v.pictureNumber + v.begin + block;
        return placeOfBlock(v.home(block), v.homeBlock(block), depth + 1);
    }

    private static boolean isSpoilt(Volume v, int block, int depth) {
        if (v == null || depth > MOST_VOLUMES) return false;
        if (v.base != null) return v.base.isLost(v.begin + block);
        Volume home = v.home(block);
        if (home != null) return isSpoilt(home, v.homeBlock(block), depth + 1);
        for (int i = 0; i < 3; i++) {
            if (isSpoilt(v.member(i), block / 2, depth + 1)) return true;
        }
        return false;
    }

    /** What BLOCK 0 tells of a form, and where its things lie. */
    private static final class Form {
        private static final int CELLS_IN_BLOCK = 32, NODE_BYTES = 32, NODES_AT = 192, FURTHER = 30;

        int kind, n;
        // of CELLS
        int tables, tableBlocks, rootBlocks, zone, clusters, firstCluster;
        // of NODES
        int nodes, data;
        // of a TAPE
        final int[] headers = new int[MOST_BLOCKS];
        int headerCount, tapeEnd, tapeFault;
        // of the latest chain that was followed
        private final int[] seen = new int[MOST_BLOCKS + 2];
        private int followed;
        int stop, stopAt;

        /** The kind is 0 if no form is GOOD. */
        void readFrom(byte[] image, int blocks) {
            kind = 0;
            if (readCells(image, blocks)) kind = CELLS;
            else if (readNodes(image, blocks)) kind = NODES;
            else if (isZero(image, 0, SIZE) || isHeader(image, 0)) kind = TAPE;
            if (kind == TAPE) {
                n = blocks;
                readHeaders(image, blocks);
            }
        }

        private boolean readCells(byte[] image, int blocks) {
            if (u8(image, 0) != 'C' || u8(image, 1) != 'F') return false;
            if (u8(image, 62) != 0x55 || u8(image, 63) != 0xAA) return false;
            tables = u8(image, 2);
            tableBlocks = u8(image, 3);
            n = u16(image, 4);
            rootBlocks = u8(image, 6);
            zone = (byte) u8(image, 7);
            if (tables < 1 || tables > 2 || tableBlocks < 1 || rootBlocks < 1 || n > blocks) return false;
            firstCluster = 1 + tables * tableBlocks + rootBlocks;
            clusters = n - firstCluster;
            if (clusters < 1 || CELLS_IN_BLOCK * tableBlocks < 2 + clusters) return false;
            return zone >= -48 && zone <= 48;
        }

        private boolean readNodes(byte[] image, int blocks) {
            if (u8(image, 0) != 'N' || u8(image, 1) != 'F') return false;
            if (u8(image, 62) != 0x33 || u8(image, 63) != 0x77) return false;
            nodes = u8(image, 2);
            n = u16(image, 4);
            if (nodes < 2 || nodes > MOST_NODES || nodes % 2 != 0 || n > blocks) return false;
            data = 3 + nodes / 2;
            return n > data && u8(image, NODES_AT) == A_FOLDER;
        }

        // ---- CELLS

        int rootBlock() {
            return firstCluster - rootBlocks;
        }

        boolean isCluster(int c) {
            return c >= 2 && c < clusters + 2;
        }

        int clusterBlock(int c) {
            return firstCluster + c - 2;
        }

        int clusterOf(int block) {
            return block - firstCluster + 2;
        }

        int cell(byte[] image, int c) {
            return u16(image, SIZE + 2 * c);
        }

        void putCell(byte[] image, int c, int v) {
            for (int k = 0; k < tables; k++) put16(image, SIZE * (1 + k * tableBlocks) + 2 * c, v);
        }

        /** The BLOCKS of a chain; stop is the FAULT that ended it (0: none), before stopAt. */
        int follow(byte[] image, int first, int[] into, int[] owners) {
            stop = 0;
            followed++;
            int count = 0;
            int c = first;
            for (int i = 0; i < MOST_BLOCKS && c != 0 && count < into.length; i++) {
                stopAt = c;
                stop = 2;
                if (!isCluster(c) || c >= seen.length) return count;
                int next = u16(image, SIZE + 2 * c);
                stop = 3;
                if (next == 0 || next == CELL_UNFIT) return count;
                stop = 4;
                if (seen[c] == followed) return count;
                int block = firstCluster + c - 2;
                stop = 5;
                if (owners != null && block < owners.length && owners[block] >= FILE_OWNER) return count;
                stop = 0;
                seen[c] = followed;
                into[count++] = block;
                if (next >= CELL_END) return count;
                c = next;
            }
            return count;
        }

        /** The NAME of a ROW of CELLS comes into twelve bytes; how many it has. */
        static int cellsName(byte[] image, int at, byte[] into) {
            int length = lengthWithout(image, at, 8, ' ');
            int more = lengthWithout(image, at + 8, 3, ' ');
            for (int i = 0; i < length; i++) put8(into, i, u8(image, at + i));
            if (more == 0) return length;
            put8(into, length, '.');
            for (int i = 0; i < more; i++) put8(into, length + 1 + i, u8(image, at + 8 + i));
            return length + 1 + more;
        }

        // ---- NODES

        int nodeAt(int node) {
            return NODES_AT + NODE_BYTES * (node - 1);
        }

        boolean isNode(byte[] image, int node) {
            if (node < 1 || node > nodes) return false;
            int kind = u8(image, nodeAt(node));
            return kind == A_FILE || kind == A_FOLDER;
        }

        boolean isErased(byte[] image, int node) {
            return u8(image, nodeAt(node)) == 0 && u32(image, nodeAt(node) + 12) != 0;
        }

        boolean isData(int block) {
            return block >= data && block < n;
        }

        static int placesFor(int size) {
            return Math.min(NODE_PLACES, (size + SIZE - 1) / SIZE);
        }

        /** Where the number of a place's BLOCK stands; NONE: the BLOCK of further ones is none. */
        int placeAt(byte[] image, int at, int k) {
            if (k < OWN_PLACES) return at + 16 + 2 * k;
            int further = u16(image, at + FURTHER);
            return further >= data && further < n ? further * SIZE + 2 * (k - OWN_PLACES) : NONE;
        }

        /** The BLOCKS of the places of the node at a byte, NONE for one that has none; how many places. */
        int placesOf(byte[] image, int at, int[] into) {
            int count = Math.min(into.length, placesFor(u16(image, at + 2)));
            for (int k = 0; k < count; k++) {
                int block = u16(image, placeAt(image, at, k));
                into[k] = isData(block) ? block : NONE;
            }
            return count;
        }

        static boolean hasBit(byte[] image, int map, int k) {
            return (u8(image, map * SIZE + k / 8) >> k % 8 & 1) != 0;
        }

        static void putBit(byte[] image, int map, int k, boolean is) {
            int at = map * SIZE + k / 8;
            int bit = 1 << k % 8;
            put8(image, at, is ? u8(image, at) | bit : u8(image, at) & ~bit);
        }

        // ---- TAPE

        static boolean isHeader(byte[] image, int block) {
            int at = block * SIZE;
            int kind = u8(image, at + 24);
            if (kind != '0' && kind != '5') return false;
            if (octal(image, at + 25, 7) < 0 || octal(image, at + 32, 12) < 0) return false;
            if (octal(image, at + 44, 7) != sumOf(image, at)) return false;
            return u8(image, at + 51) == 't' && u8(image, at + 52) == 'a' && u8(image, at + 53) == 'p'
                && u8(image, at + 54) == 'e' && u8(image, at + 55) == '1';
        }

        /** A number in octal digits; NONE if these are not all such. */
        static long octal(byte[] image, int at, int digits) {
            if (at < 0 || at > image.length - digits) return NONE;
            long value = 0;
            for (int i = 0; i < digits; i++) {
                int c = image[at + i];
                if (c < '0' || c > '7') return NONE;
                value = 8 * value + c - '0';
            }
            return value;
        }

        static void putOctal(byte[] image, int at, int digits, int v) {
            for (int i = 0; i < digits; i++) {
                int shift = 3 * (digits - 1 - i);
                put8(image, at + i, '0' + (shift > 31 ? 0 : v >>> shift & 7));
            }
        }

        static int sumOf(byte[] image, int at) {
            if (at < 0 || at > image.length - SIZE) return NONE;
            int sum = 0;
            for (int i = 0; i < SIZE; i++) sum += i >= 44 && i < 51 ? ' ' : image[at + i] & 255;
            return sum;
        }

        /** How many BLOCKS the entry of a HEADER should have behind it. */
        static int tapeBlocks(byte[] image, int block) {
            int at = block * SIZE;
            return u8(image, at + 24) == '5' ? 0 : blocksFor((int) octal(image, at + 25, 7));
        }

        private void readHeaders(byte[] image, int blocks) {
            headerCount = 0;
            tapeFault = 0;
            tapeEnd = 0;
            while (tapeEnd < blocks && headerCount < headers.length && !isZero(image, tapeEnd * SIZE, SIZE)) {
                if (!isHeader(image, tapeEnd)) {
                    tapeFault = 9;
                    return;
                }
                headers[headerCount++] = tapeEnd;
                int need = tapeBlocks(image, tapeEnd);
                if (need > blocks - tapeEnd - 1) {
                    tapeFault = 10;
                    return;
                }
                tapeEnd += 1 + need;
            }
        }
    }

    /** A FILE of a TREE, living or not. */
    private static final class Item {
        final int sort, kind;
        final long told;
        int size, grade, parent = NONE, depth, faults;
        long made = NONE, altered = NONE, erased = NONE;
        byte[] letters = NO_BYTES;
        int[] blocks = NO_BLOCKS;
        // of an INSIDE one: the FILE whose BLOCKS have its bytes, and where they begin there
        Item base;
        int offset;

        Item(int sort, int kind, long told) {
            this.sort = sort;
            this.kind = kind;
            this.told = told;
        }

        boolean isFolder() {
            return kind == A_FOLDER;
        }

        int blockAt(int k) {
            return k < 0 || k >= blocks.length ? NONE : blocks[k];
        }

        long fact(int what) {
            switch (what) {
                case 0: return kind;
                case 1: return size;
                case 2: return made;
                case 3: return altered;
                case 4: return erased;
                case 5: return grade;
                case 6: return parent;
                case 7: return blocks.length;
                case 8: return depth;
                case 9: return faults;
                case 10: return told;
                default: return BAD;
            }
        }

        /** The end of a FILE lies where its size is told, but in its BLOCKS. */
        void endIn(int most) {
            size = told > most ? most : (int) told;
        }

        /** What stands there of a moment: 0 made, 1 altered, 2 erased. */
        private long stamp(int which) {
            if (which == 0) return made;
            return which == 1 ? altered : erased;
        }

        boolean hasMoment(int which) {
            return stamp(which) > 0;
        }

        long moment(int which, int zone) {
            return sort == CELLS ? 2 * stamp(which) - 900 * zone : stamp(which);
        }

        int grain() {
            return sort == CELLS ? 2 : 1;
        }

        boolean isNamed(byte[] text, int from, int to) {
            return letters.length == to - from && sameBytes(letters, 0, text, from, to - from);
        }
    }

    /** What a VOLUME had when it was MOUNTED. */
    private static final class Tree {
        final Form form = new Form();
        final byte[] image;
        final int volumeNumber;
        final int[] owners;
        final Item[] items = new Item[MOST_FILES];
        int total, living, lost, cut, within;
        final int[] faults = new int[3 * MOST_FAULTS];
        int faultCount;

        Tree(byte[] image, int blocks, int volumeNumber) {
            this.image = image;
            this.volumeNumber = volumeNumber;
            owners = new int[blocks];
        }

        int fact(int what) {
            switch (what) {
                case 0: return form.kind;
                case 1: return living;
                case 2: return lost;
                case 3: return cut;
                case 4: return faultCount;
                case 5: return form.n;
                case 6: return volumeNumber;
                case 7: return within;
                case 8: return freeRuns();
                default: return BAD;
            }
        }

        /** The number of a FILE that is added. */
        int add(Item item) {
            if (total >= items.length) return NONE;
            items[total] = item;
            return total++;
        }

        void addFault(int number, int file, int block) {
            if (file >= 0 && file < total) items[file].faults++;
            if (faultCount >= MOST_FAULTS) return;
            faults[3 * faultCount] = number;
            faults[3 * faultCount + 1] = file;
            faults[3 * faultCount + 2] = block;
            faultCount++;
        }

        int ownerOf(int block) {
            return block < 0 || block >= owners.length ? HEAD_OWNER : owners[block];
        }

        void own(int block, int owner) {
            if (block >= 0 && block < owners.length) owners[block] = owner;
        }

        int freeRuns() {
            int runs = 0;
            for (int b = 0; b < owners.length; b++) {
                if (owners[b] == 0 && (b == 0 || owners[b - 1] != 0)) runs++;
            }
            return runs;
        }

        int freeRun(int i) {
            int runs = 0;
            for (int b = 0; b < owners.length; b++) {
                if (owners[b] != 0 || b > 0 && owners[b - 1] == 0) continue;
                if (runs++ == i) return b;
            }
            return owners.length;
        }

        int runEnd(int begin) {
            int end = Math.max(0, begin);
            while (end < owners.length && owners[end] == 0) end++;
            return end;
        }

        /** Byte i of a FILE'S bytes and what is behind them in its BLOCKS. */
        int byteOf(Item item, int i) {
            Item f = item.base == null ? item : item.base;
            int at = item.offset + i;
            int block = at < 0 ? NONE : f.blockAt(at / SIZE);
            return block < 0 ? 0 : u8(image, block * SIZE + at % SIZE);
        }

        /** The first bytes of a FILE; how many came. */
        int copyBytes(Item item, byte[] into, int most) {
            int n = Math.min(item.size, Math.min(most, into.length));
            if (item.base != null) {
                for (int i = 0; i < n; i++) into[i] = (byte) byteOf(item, i);
                return n;
            }
            for (int k = 0; k * SIZE < n; k++) {
                int part = Math.min(SIZE, n - k * SIZE);
                int from = item.blockAt(k) * SIZE;
                if (from < 0 || from + part > image.length) clear(into, k * SIZE, part);
                else System.arraycopy(image, from, into, k * SIZE, part);
            }
            return n;
        }

        int findLiving(byte[] text, int length) {
            if (form.kind == TAPE) return firstNamed(NONE, text, 0, length);
            int folder = NONE;
            int from = 0;
            for (int i = 0; i <= length; i++) {
                if (i < length && text[i] != '/') continue;
                folder = firstNamed(folder, text, from, i);
                if (folder == NONE) return NONE;
                from = i + 1;
            }
            return folder;
        }

        private int firstNamed(int parent, byte[] text, int from, int to) {
            for (int i = 0; i < living; i++) {
                if (items[i].parent == parent && items[i].isNamed(text, from, to)) return i;
            }
            return NONE;
        }

        /** A FILE of the bytes of an OPEN one's entry: the same for the same bytes. */
        int takeInside(Opening o, int i) {
            if (o.fileNumber < 0 || o.fileNumber >= total || i < 2) return BAD;
            Item outer = items[o.fileNumber];
            int from = o.nodeFact(i, 1);
            int size = o.nodeFact(i, 2) - from;
            for (int k = living + lost + cut; k < total; k++) {
                Item there = items[k];
                if (there.parent == o.fileNumber && there.offset == outer.offset + from) return k;
            }
            if (within >= MOST_WITHIN) return FULL;
            Item item = new Item(WITHIN, A_FILE, size);
            item.size = size;
            item.base = outer.base == null ? outer : outer.base;
            item.offset = outer.offset + from;
            item.altered = unsigned(o.nodeFact(i - 2, 3));
            item.grade = outer.grade;
            item.parent = o.fileNumber;
            item.depth = outer.depth + 1;
            int letters = o.nodeFact(i - 1, 1);
            item.letters = new byte[Math.max(0, o.nodeFact(i - 1, 2) - letters)];
            for (int k = 0; k < item.letters.length; k++) item.letters[k] = (byte) byteOf(outer, letters + k);
            within++;
            return add(item);
        }
    }

    /** Finds what a VOLUME has, for a TREE. */
    private static final class Reader {
        private static final int ROW = 32, ROOT_NODE = 1, NODE_ROW = 16;

        private final Tree tree;
        private final Form form;
        private final byte[] image;
        private final Item[] erased = new Item[MOST_LOST];
        private int erasedCount;
        private final boolean[] walked = new boolean[MOST_NODES + 1];
        private final int[] room = new int[MOST_BLOCKS];
        private final byte[] letters = new byte[24];

        Reader(Tree tree) {
            this.tree = tree;
            form = tree.form;
            image = tree.image;
        }

        private static int[] firstOf(int[] a, int n) {
            return n <= 0 || n > a.length ? NO_BLOCKS : Arrays.copyOf(a, n);
        }

        private static byte[] bytesOf(byte[] a, int from, int n) {
            return n <= 0 || from < 0 || n > a.length - from ? NO_BYTES : Arrays.copyOfRange(a, from, from + n);
        }

        private void addErased() {
            for (int i = 0; i < erasedCount; i++) tree.add(erased[i]);
            tree.lost = erasedCount;
        }

        // ---- CELLS

        void readCells() {
            int firstRoot = form.rootBlock();
            for (int b = 0; b < form.firstCluster; b++) {
                tree.own(b, b == 0 ? HEAD_OWNER : b < firstRoot ? TABLE_OWNER : ROOT_OWNER);
            }
            compareTables();
            int[] root = new int[form.rootBlocks];
            for (int i = 0; i < root.length; i++) root[i] = firstRoot + i;
            walkCells(root, NONE, 0);
            for (int c = 2; c < form.clusters + 2; c++) {
                int block = form.clusterBlock(c);
                if (tree.ownerOf(block) == 0 && form.cell(image, c) != 0) tree.own(block, TAKEN_OWNER);
            }
            tree.living = tree.total;
            addErased();
        }

        private void compareTables() {
            int second = (1 + form.tableBlocks) * SIZE;
            for (int c = 0; c < form.clusters + 2 && form.tables == 2; c++) {
                if (form.cell(image, c) != u16(image, second + 2 * c)) tree.addFault(1, NONE, 1 + 2 * c / SIZE);
            }
        }

        private void walkCells(int[] blocks, int parent, int depth) {
            if (depth > DEEPEST) return;
            for (int i = 0; i < 2 * blocks.length; i++) {
                int at = blocks[i / 2] * SIZE + i % 2 * ROW;
                int first = u8(image, at);
                if (first == 0) return;
                if (first != ERASED_ROW) {
                    if (tree.total < MOST_LIVING) meetCells(at, parent, depth);
                } else if ((u8(image, at + 11) & 16) == 0 && erasedCount < MOST_LOST) {
                    erased[erasedCount++] = erasedCells(at, parent, depth);
                }
            }
        }

        private Item cellsItem(int at, int parent, int depth) {
            boolean folder = (u8(image, at + 11) & 16) != 0;
            Item item = new Item(CELLS, folder ? A_FOLDER : A_FILE, unsigned(u32(image, at + 28)));
            item.made = unsigned(u32(image, at + 14));
            item.altered = unsigned(u32(image, at + 18));
            item.letters = bytesOf(letters, 0, Form.cellsName(image, at, letters));
            item.parent = parent;
            item.depth = depth;
            return item;
        }

        private void meetCells(int at, int parent, int depth) {
            Item item = cellsItem(at, parent, depth);
            item.grade = 5;
            int number = tree.add(item);
            item.blocks = firstOf(room, form.follow(image, u16(image, at + 26), room, tree.owners));
            for (int i = 0; i < item.blocks.length; i++) tree.own(item.blocks[i], FILE_OWNER + number);
            if (form.stop != 0) {
                tree.addFault(form.stop, number, form.stop == 2 ? form.stopAt : form.clusterBlock(form.stopAt));
            }
            int most = SIZE * item.blocks.length;
            if (!item.isFolder()) {
                item.endIn(most);
                if (item.told > most) tree.addFault(8, number, NONE);
                return;
            }
            item.size = most;
            if (depth < DEEPEST) walkCells(item.blocks, number, depth + 1);
            else if (most > 0) tree.addFault(6, number, item.blockAt(0));
        }

        private Item erasedCells(int at, int parent, int depth) {
            Item item = cellsItem(at, parent, depth);
            if (item.letters.length > 0) item.letters[0] = '?';
            long need = (item.told + SIZE - 1) / SIZE;
            int first = u16(image, at + 26);
            int count = 0;
            if (form.isCluster(first) && form.cell(image, first) == 0) {
                for (int c = first; c < form.clusters + 2 && count < need && count < room.length; c++) {
                    if (form.cell(image, c) == 0) room[count++] = form.clusterBlock(c);
                }
            }
            item.blocks = firstOf(room, count);
            item.endIn(SIZE * count);
            boolean inOne = count == 0 || room[count - 1] - room[0] == count - 1;
            item.grade = count == need && inOne ? 3 : count > 0 ? 2 : 1;
            return item;
        }

        // ---- NODES

        void readNodes() {
            for (int b = 0; b < form.data; b++) tree.own(b, HEAD_OWNER);
            int rootAt = form.nodeAt(ROOT_NODE);
            int[] root = firstOf(room, form.placesOf(image, rootAt, room));
            for (int k = 0; k < root.length; k++) tree.own(root[k], HEAD_OWNER);
            int further = u16(image, rootAt + Form.FURTHER);
            if (root.length > OWN_PLACES && form.isData(further)) tree.own(further, HEAD_OWNER);
            walkNodes(root, u16(image, rootAt + 2), NONE, 0);
            tree.living = tree.total;
            compareMap();
            for (int node = 1; node <= form.nodes && erasedCount < MOST_LOST; node++) {
                if (form.isErased(image, node)) erased[erasedCount++] = erasedNode(node);
            }
            addErased();
        }

        private void walkNodes(int[] places, int size, int parent, int depth) {
            if (depth > DEEPEST) return;
            for (int i = 0; i < size / NODE_ROW && i / 4 < places.length; i++) {
                int at = places[i / 4] * SIZE + i % 4 * NODE_ROW;
                int node = at < 0 ? 0 : u16(image, at);
                if (node == 0) continue;
                if (!form.isNode(image, node)) tree.addFault(7, NONE, node);
                else if (tree.total < MOST_LIVING) meetNode(at, node, parent, depth);
            }
        }

        private Item nodeItem(int at, int kind) {
            Item item = new Item(NODES, kind, u16(image, at + 2));
            item.made = unsigned(u32(image, at + 4));
            item.altered = unsigned(u32(image, at + 8));
            item.erased = unsigned(u32(image, at + 12));
            item.blocks = firstOf(room, form.placesOf(image, at, room));
            item.endIn(NODE_PLACES * SIZE);
            return item;
        }

        private void meetNode(int row, int node, int parent, int depth) {
            int at = form.nodeAt(node);
            Item item = nodeItem(at, u8(image, at));
            item.letters = bytesOf(image, row + 2, lengthWithout(image, row + 2, 14, 0));
            item.grade = 5;
            item.parent = parent;
            item.depth = depth;
            int number = tree.add(item);
            ownPlaces(item, number, at);
            if (!item.isFolder()) {
                if (item.told > item.size) tree.addFault(8, number, NONE);
            } else if (depth >= DEEPEST || node == ROOT_NODE || walked[node]) {
                tree.addFault(6, number, node);
            } else {
                walked[node] = true;
                walkNodes(item.blocks, item.size, number, depth + 1);
            }
        }

        private void ownPlaces(Item item, int number, int at) {
            for (int k = 0; k < item.blocks.length; k++) {
                int further = u16(image, at + Form.FURTHER);
                if (k == OWN_PLACES && !form.isData(further)) {
                    tree.addFault(2, number, further);
                    return;
                }
                if (k == OWN_PLACES) ownBlock(further, number);
                if (item.blocks[k] >= 0) ownBlock(item.blocks[k], number);
                else tree.addFault(2, number, u16(image, form.placeAt(image, at, k)));
            }
        }

        private void ownBlock(int block, int number) {
            int owner = tree.ownerOf(block);
            if (owner == 0) tree.own(block, FILE_OWNER + number);
            else if (owner >= FILE_OWNER && owner != FILE_OWNER + number) tree.addFault(5, number, block);
        }

        private void compareMap() {
            for (int b = 0; b < form.n; b++) {
                boolean taken = Form.hasBit(image, 2, b);
                int owner = tree.ownerOf(b);
                if (owner != 0 && !taken) tree.addFault(11, owner >= FILE_OWNER ? owner - FILE_OWNER : NONE, b);
                if (owner != 0 || !taken) continue;
                tree.addFault(12, NONE, b);
                tree.own(b, TAKEN_OWNER);
            }
        }

        private Item erasedNode(int node) {
            Item item = nodeItem(form.nodeAt(node), A_FILE);
            item.letters = numbered('#', node);
            int safe = 0;
            for (int k = 0; k < item.blocks.length; k++) {
                if (isSafe(item.blocks[k], node)) safe++;
            }
            if (safe == item.blocks.length) item.grade = 4;
            else item.grade = isSafe(item.blockAt(0), node) ? 3 : 1;
            return item;
        }

        /** Whether a BLOCK of an erased node is free, and no node that was erased later had it. */
        private boolean isSafe(int block, int node) {
            if (block < 0 || tree.ownerOf(block) != 0) return false;
            long when = unsigned(u32(image, form.nodeAt(node) + 12));
            for (int other = 1; other <= form.nodes; other++) {
                if (other == node || !form.isErased(image, other)) continue;
                long then = unsigned(u32(image, form.nodeAt(other) + 12));
                if ((then > when || then == when && other > node) && hasPlace(other, block)) return false;
            }
            return true;
        }

        private boolean hasPlace(int node, int block) {
            int at = form.nodeAt(node);
            int places = Form.placesFor(u16(image, at + 2));
            for (int k = 0; k < places; k++) {
                if (u16(image, form.placeAt(image, at, k)) == block) return true;
            }
            return false;
        }

        /** A letter and the digits of a number below 1000. */
        private byte[] numbered(int letter, int number) {
            put8(letters, 0, letter);
            int length = 1;
            for (int ten = 100; ten >= 1; ten /= 10) {
                if (number >= ten || ten == 1) put8(letters, length++, '0' + number / ten % 10);
            }
            return bytesOf(letters, 0, length);
        }

        // ---- TAPE

        void readTape() {
            for (int i = 0; i < form.headerCount; i++) {
                tree.own(form.headers[i], HEADER_OWNER);
                if (!comesAgain(i) && tree.total < MOST_LIVING) meetEntry(form.headers[i], 5);
            }
            tree.living = tree.total;
            for (int i = 0; i < form.headerCount; i++) {
                if (comesAgain(i) && tree.total < tree.living + MOST_LOST) meetEntry(form.headers[i], 4);
            }
            tree.lost = tree.total - tree.living;
            if (form.tapeFault != 0) tree.addFault(form.tapeFault, NONE, form.tapeEnd);
        }

        private boolean comesAgain(int entry) {
            int at = form.headers[entry] * SIZE;
            for (int i = entry + 1; i < form.headerCount; i++) {
                if (sameBytes(image, at, image, form.headers[i] * SIZE, 24)) return true;
            }
            return false;
        }

        private void meetEntry(int header, int grade) {
            int at = header * SIZE;
            Item item = new Item(TAPE, u8(image, at + 24) == '5' ? A_FOLDER : A_FILE, Form.octal(image, at + 25, 7));
            item.altered = Form.octal(image, at + 32, 12);
            item.letters = bytesOf(image, at, lengthWithout(image, at, 24, 0));
            item.grade = grade;
            int number = tree.add(item);
            int count = Math.min(Form.tapeBlocks(image, header), tree.owners.length - header - 1);
            item.blocks = blocksFrom(header + 1, count);
            if (!item.isFolder()) item.endIn(SIZE * count);
            for (int k = 0; k < count; k++) tree.own(header + 1 + k, FILE_OWNER + number);
        }

        private static int[] blocksFrom(int first, int count) {
            int[] blocks = count <= 0 ? NO_BLOCKS : new int[count];
            for (int k = 0; k < blocks.length; k++) blocks[k] = first + k;
            return blocks;
        }

        // ---- what is cut out

        void cutOut() {
            Opening probe = new Opening(NONE, NONE, 0);
            int skip = 0;
            for (int b = 0; b < tree.owners.length && tree.cut < MOST_CUT; b++) {
                if (b < skip || tree.owners[b] != 0) continue;
                int size = probe.wholeSize(image, b * SIZE, (tree.runEnd(b) - b) * SIZE);
                if (size == 0) continue;
                Item item = new Item(CUT, A_FILE, size);
                item.size = size;
                item.letters = numbered('@', b);
                item.grade = 2;
                item.blocks = blocksFrom(b, blocksFor(size));
                tree.add(item);
                tree.cut++;
                skip = b + item.blocks.length;
            }
        }
    }

    /** Writes forms, files and folders on VOLUMES. */
    private static final class Maker {
        static final int SAVE = 0, FOLDER = 1, ERASE = 2;
        private static final int LONGEST_PATH = 40, LONGEST_TAPE_PATH = 24, MOST_NAMES = 6;
        private static final int NODE_MAP = 1, BLOCK_MAP = 2;

        final byte[] image = new byte[MOST_BLOCKS * SIZE];
        final byte[] before = new byte[MOST_BLOCKS * SIZE];
        /** A BLOCK for each level of joined VOLUMES. */
        final byte[] rooms = new byte[(MOST_VOLUMES + 1) * SIZE];
        final Form form = new Form();
        private final byte[] letters = new byte[12];
        private byte[] text = NO_BYTES;
        private int pathEnd, contentsAt, moment;
        // the folder that was entered last: CELLS: the byte of its ROW (NONE: the root), NODES: its node
        private int inFolder;
        private final int[] folderBlocks = new int[MOST_BLOCKS];
        private int folderCount, folderRows;
        // the last NAME of the path, and the byte of the ROW that has it (NONE)
        private int nameFrom, rowAt;
        private final int[] taken = new int[MOST_BLOCKS];

        /** Reads a VOLUME and its form. */
        void look(Volume v) {
            for (int b = 0; b < v.size; b++) readBlock(v, b, image, b * SIZE);
            form.readFrom(image, v.size);
        }

        int carryOut(Volume v, int deed, byte[] collected, int length, int now) {
            look(v);
            System.arraycopy(image, 0, before, 0, image.length);
            text = collected;
            moment = now;
            pathEnd = length;
            if (deed == SAVE) {
                pathEnd = 0;
                while (pathEnd < length && text[pathEnd] != 0) pathEnd++;
            }
            contentsAt = Math.min(length, pathEnd + 1);
            int answer;
            if (form.kind == 0) answer = FORM;
            else if (form.kind == TAPE) answer = onTape(v.size, deed, length - contentsAt);
            else if (!findPlace()) answer = PATH;
            else if (deed == ERASE) answer = eraseRow();
            else answer = store(deed == FOLDER, length - contentsAt);
            if (answer >= 0) writeChanges(v);
            return answer;
        }

        private void writeChanges(Volume v) {
            for (int b = 0; b < v.size; b++) {
                if (!sameBytes(image, b * SIZE, before, b * SIZE, SIZE)) writeBlock(v, b, image, b * SIZE, rooms, 0);
            }
        }

        // ---- forms

        boolean mayFormat(int kind, int argument) {
            if (kind == CELLS) return argument >= 0 && argument < 8 * 97;
            if (kind == NODES) return argument >= 1 && argument <= MOST_NODES / 2;
            return kind == TAPE && argument == 0;
        }

        int makeForm(Volume v, int kind, int argument, int now) {
            clear(image, 0, image.length);
            moment = now;
            boolean fits = kind == TAPE || kind == CELLS && makeCells(v.size, argument) || kind == NODES && makeNodes(v.size, argument);
            if (!fits) return FORM;
            for (int b = 0; b < v.size; b++) writeBlock(v, b, image, b * SIZE, rooms, 0);
            return 0;
        }

        private boolean makeCells(int n, int argument) {
            int tables = argument % 2 + 1;
            int root = argument / 2 % 4 + 1;
            int t = 1;
            while (t < n && 32 * t < 2 + n - 1 - tables * t - root) t++;
            if (n - 1 - tables * t - root < 1) return false;
            put8(image, 0, 'C');
            put8(image, 1, 'F');
            put8(image, 2, tables);
            put8(image, 3, t);
            put16(image, 4, n);
            put8(image, 6, root);
            put8(image, 7, argument / 8 - 48);
            put8(image, 62, 0x55);
            put8(image, 63, 0xAA);
            for (int k = 0; k < tables; k++) {
                put16(image, SIZE * (1 + k * t), CELL_END);
                put16(image, SIZE * (1 + k * t) + 2, CELL_END);
            }
            return true;
        }

        private boolean makeNodes(int n, int argument) {
            int data = 3 + argument;
            if (n - data < 2) return false;
            put8(image, 0, 'N');
            put8(image, 1, 'F');
            put8(image, 2, 2 * argument);
            put16(image, 4, n);
            put8(image, 62, 0x33);
            put8(image, 63, 0x77);
            put8(image, SIZE, 3);
            for (int b = 0; b <= data; b++) Form.putBit(image, BLOCK_MAP, b, true);
            putNode(Form.NODES_AT, A_FOLDER, SIZE);
            put32(image, Form.NODES_AT + 4, moment);
            put16(image, Form.NODES_AT + 16, data);
            return true;
        }

        // ---- paths

        private int nameEnd(int from) {
            int end = from;
            while (end < pathEnd && text[end] != '/') end++;
            return end;
        }

        private boolean isPath() {
            if (pathEnd > (form.kind == TAPE ? LONGEST_TAPE_PATH : LONGEST_PATH)) return false;
            int from = 0;
            for (int i = 0; i < MOST_NAMES; i++) {
                int to = nameEnd(from);
                if (form.kind == CELLS ? !isCellsName(from, to) : !isOtherName(from, to)) return false;
                if (to >= pathEnd) return true;
                from = to + 1;
            }
            return false;
        }

        private boolean isOtherName(int from, int to) {
            for (int i = from; i < to; i++) {
                if (text[i] == 0) return false;
            }
            return to > from && to - from <= 14;
        }

        private boolean isCellsName(int from, int to) {
            int dot = from;
            while (dot < to && isCellsLetter(text[dot])) dot++;
            if (dot == from || dot - from > 8) return false;
            if (dot == to) return true;
            if (text[dot] != '.') return false;
            for (int i = dot + 1; i < to; i++) {
                if (!isCellsLetter(text[i])) return false;
            }
            return to - dot > 1 && to - dot <= 4;
        }

        private static boolean isCellsLetter(int c) {
            return c >= 'A' && c <= 'Z' || c >= '0' && c <= '9';
        }

        /** Enters the folder of the path, and looks for its last NAME there. */
        private boolean findPlace() {
            if (!isPath()) return false;
            if (form.kind == CELLS) enterCells(NONE);
            else enterNode(1);
            nameFrom = 0;
            for (int i = 0; i < MOST_NAMES; i++) {
                int to = nameEnd(nameFrom);
                rowAt = findRow(nameFrom, to);
                if (to >= pathEnd) return true;
                if (rowAt < 0 || !isFolderRow(rowAt)) return false;
                if (form.kind == CELLS) enterCells(rowAt);
                else enterNode(u16(image, rowAt));
                nameFrom = to + 1;
            }
            return false;
        }

        private void enterCells(int row) {
            inFolder = row;
            folderCount = row < 0 ? form.rootBlocks : form.follow(image, u16(image, row + 26), folderBlocks, null);
            for (int i = 0; i < folderCount && row < 0; i++) folderBlocks[i] = form.rootBlock() + i;
            folderRows = 2 * folderCount;
        }

        private void enterNode(int node) {
            inFolder = node;
            int at = form.nodeAt(node);
            folderCount = form.placesOf(image, at, folderBlocks);
            folderRows = Math.min(u16(image, at + 2), NODE_PLACES * SIZE) / 16;
        }

        /** The byte of a ROW of the folder; NONE: its place has no BLOCK. */
        private int rowPlace(int i) {
            int rows = form.kind == CELLS ? 2 : 4;
            int place = i / rows;
            if (place >= folderCount || folderBlocks[place] < 0) return NONE;
            return folderBlocks[place] * SIZE + i % rows * (SIZE / rows);
        }

        private int findRow(int from, int to) {
            for (int i = 0; i < folderRows; i++) {
                int at = rowPlace(i);
                if (at < 0) continue;
                if (form.kind == CELLS && u8(image, at) == 0) return NONE;
                if (form.kind == CELLS ? isCellsRow(at, from, to) : isNodesRow(at, from, to)) return at;
            }
            return NONE;
        }

        private boolean isCellsRow(int at, int from, int to) {
            if (u8(image, at) == ERASED_ROW) return false;
            int length = Form.cellsName(image, at, letters);
            return length == to - from && sameBytes(letters, 0, text, from, length);
        }

        private boolean isNodesRow(int at, int from, int to) {
            if (!form.isNode(image, u16(image, at))) return false;
            int length = lengthWithout(image, at + 2, 14, 0);
            return length == to - from && sameBytes(image, at + 2, text, from, length);
        }

        private boolean isFolderRow(int at) {
            if (form.kind == CELLS) return (u8(image, at + 11) & 16) != 0;
            return u8(image, form.nodeAt(u16(image, at))) == A_FOLDER;
        }

        private int freeRow() {
            for (int i = 0; i < folderRows; i++) {
                int at = rowPlace(i);
                if (at < 0) continue;
                int first = u8(image, at);
                if (form.kind == CELLS ? first == 0 || first == ERASED_ROW : u16(image, at) == 0) return at;
            }
            return NONE;
        }

        // ---- saving

        private int store(boolean folder, int length) {
            if (rowAt >= 0 && (folder || isFolderRow(rowAt))) return PATH;
            boolean fresh = rowAt < 0;
            int need = folder ? 1 : blocksFor(length);
            if (form.kind == NODES && need > NODE_PLACES) return FULL;
            if (fresh) rowAt = freeRow();
            if (fresh && rowAt < 0) rowAt = form.kind == CELLS ? growCells() : growNode();
            if (rowAt < 0) return FULL;
            boolean fits = form.kind == CELLS ? storeCells(fresh, folder, need, length) : storeNode(fresh, folder, need, length);
            if (!fits) return FULL;
            return folder ? 0 : need;
        }

        private boolean storeCells(boolean fresh, boolean folder, int need, int length) {
            if (!fresh) dropChain(rowAt);
            if (!takeClusters(need)) return false;
            fill(need, folder ? 0 : length);
            if (fresh) {
                clear(image, rowAt, 32);
                putCellsName();
                put8(image, rowAt + 11, folder ? 16 : 0);
                put32(image, rowAt + 14, cellsMoment());
            }
            put32(image, rowAt + 18, cellsMoment());
            put16(image, rowAt + 26, need == 0 ? 0 : form.clusterOf(taken[0]));
            put32(image, rowAt + 28, folder ? 0 : length);
            return true;
        }

        private int cellsMoment() {
            return (int) (Math.max(0L, moment + 900L * form.zone) / 2);
        }

        private void putCellsName() {
            for (int i = 0; i < 11; i++) put8(image, rowAt + i, ' ');
            int at = rowAt;
            for (int i = nameFrom; i < pathEnd; i++) {
                if (text[i] == '.') at = rowAt + 8;
                else put8(image, at++, text[i]);
            }
        }

        private void dropChain(int row) {
            int count = form.follow(image, u16(image, row + 26), taken, null);
            for (int i = 0; i < count; i++) form.putCell(image, form.clusterOf(taken[i]), 0);
        }

        /** A chain of the least free CLUSTERS; false: there are too few. */
        private boolean takeClusters(int need) {
            int count = 0;
            for (int c = 2; c < form.clusters + 2 && count < need && count < taken.length; c++) {
                if (form.cell(image, c) == 0) taken[count++] = form.clusterBlock(c);
            }
            for (int i = 0; i < count; i++) {
                form.putCell(image, form.clusterOf(taken[i]), i + 1 < count ? form.clusterOf(taken[i + 1]) : CELL_LAST);
            }
            return count == need;
        }

        /** The BLOCKS taken get the contents, and 0s behind. */
        private void fill(int count, int length) {
            for (int i = 0; i < count && i < taken.length; i++) {
                clear(image, taken[i] * SIZE, SIZE);
                for (int k = 0; k < SIZE && i * SIZE + k < length; k++) {
                    put8(image, taken[i] * SIZE + k, u8(text, contentsAt + i * SIZE + k));
                }
            }
        }

        // The folder gets a BLOCK more: its first ROW is the new one.
        private int growCells() {
            if (inFolder < 0 || !takeClusters(1)) return NONE;
            clear(image, taken[0] * SIZE, SIZE);
            int c = form.clusterOf(taken[0]);
            if (folderCount == 0) put16(image, inFolder + 26, c);
            else form.putCell(image, form.clusterOf(folderBlocks[folderCount - 1]), c);
            return taken[0] * SIZE;
        }

        private int growNode() {
            int at = form.nodeAt(inFolder);
            if (folderCount >= NODE_PLACES) return NONE;
            boolean lacksFurther = folderCount == OWN_PLACES || !form.isData(u16(image, at + Form.FURTHER));
            if (folderCount >= OWN_PLACES && lacksFurther && takeBlock(at + Form.FURTHER) < 0) return NONE;
            int block = takeBlock(form.placeAt(image, at, folderCount));
            if (block < 0) return NONE;
            put16(image, at + 2, SIZE * (folderCount + 1));
            return block * SIZE;
        }

        private boolean storeNode(boolean fresh, boolean folder, int need, int length) {
            int node = fresh ? takeBit(NODE_MAP, 1, form.nodes + 1) : u16(image, rowAt);
            if (node < 0) return false;
            int at = form.nodeAt(node);
            if (fresh) clear(image, at, 32);
            else dropBlocks(at);
            clear(image, at + 16, 16);
            for (int k = 0; k < need && k < taken.length; k++) {
                if (k == OWN_PLACES && takeBlock(at + Form.FURTHER) < 0) return false;
                taken[k] = takeBlock(form.placeAt(image, at, k));
                if (taken[k] < 0) return false;
            }
            fill(need, folder ? 0 : length);
            putNode(at, folder ? A_FOLDER : A_FILE, folder ? SIZE : length);
            if (fresh) {
                put32(image, at + 4, moment);
                clear(image, rowAt, 16);
                put16(image, rowAt, node);
                for (int i = nameFrom; i < pathEnd; i++) put8(image, rowAt + 2 + i - nameFrom, text[i]);
            }
            return true;
        }

        private void putNode(int at, int kind, int size) {
            put8(image, at, kind);
            put8(image, at + 1, 1);
            put16(image, at + 2, size);
            put32(image, at + 8, moment);
            put32(image, at + 12, 0);
        }

        /** The least free DATA BLOCK, all 0 now, whose number comes to a byte; NONE: there is none. */
        private int takeBlock(int numberAt) {
            int block = takeBit(BLOCK_MAP, form.data, form.n);
            if (block < 0) return NONE;
            clear(image, block * SIZE, SIZE);
            put16(image, numberAt, block);
            return block;
        }

        private int takeBit(int map, int from, int to) {
            for (int k = from; k < to; k++) {
                int at = map * SIZE + k / 8;
                int bit = 1 << k % 8;
                if ((u8(image, at) & bit) != 0) continue;
                put8(image, at, u8(image, at) | bit);
                return k;
            }
            return NONE;
        }

        private void dropBlocks(int at) {
            int count = form.placesOf(image, at, taken);
            for (int k = 0; k < count; k++) {
                if (taken[k] >= 0) Form.putBit(image, BLOCK_MAP, taken[k], false);
            }
            int further = u16(image, at + Form.FURTHER);
            if (count > OWN_PLACES && form.isData(further)) Form.putBit(image, BLOCK_MAP, further, false);
        }

        // ---- erasing

        private int eraseRow() {
            if (rowAt < 0) return PATH;
            int row = rowAt;
            if (isFolderRow(row) && hasLivingRows(row)) return PATH;
            if (form.kind == CELLS) {
                dropChain(row);
                put8(image, row, ERASED_ROW);
                return 0;
            }
            int node = u16(image, row);
            int at = form.nodeAt(node);
            dropBlocks(at);
            Form.putBit(image, NODE_MAP, node, false);
            put16(image, at, 0);
            put32(image, at + 12, moment);
            put16(image, row, 0);
            return 0;
        }

        private boolean hasLivingRows(int row) {
            if (form.kind == CELLS) enterCells(row);
            else enterNode(u16(image, row));
            for (int i = 0; i < folderRows; i++) {
                int at = rowPlace(i);
                if (at < 0) continue;
                int first = u8(image, at);
                if (form.kind == CELLS && first == 0) return false;
                if (form.kind == CELLS ? first != ERASED_ROW : u16(image, at) != 0) return true;
            }
            return false;
        }

        // ---- TAPE

        private int onTape(int blocks, int deed, int length) {
            if (deed == ERASE || form.tapeFault != 0) return FORM;
            if (!isPath()) return PATH;
            int need = deed == FOLDER ? 0 : blocksFor(length);
            if (need > blocks - form.tapeEnd - 1) return FULL;
            int at = form.tapeEnd * SIZE;
            clear(image, at, SIZE);
            for (int i = 0; i < pathEnd; i++) put8(image, at + i, text[i]);
            put8(image, at + 24, deed == FOLDER ? '5' : '0');
            Form.putOctal(image, at + 25, 7, deed == FOLDER ? 0 : length);
            Form.putOctal(image, at + 32, 12, moment);
            put8(image, at + 51, 't');
            put8(image, at + 52, 'a');
            put8(image, at + 53, 'p');
            put8(image, at + 54, 'e');
            put8(image, at + 55, '1');
            Form.putOctal(image, at + 44, 7, Form.sumOf(image, at));
            for (int i = 0; i < need && i < taken.length; i++) taken[i] = form.tapeEnd + 1 + i;
            fill(need, length);
            return need;
        }
    }

    /** A FILE'S bytes as NODES. */
    private static final class Opening {
        static final int MOST_BYTES = 4096, MOST_PARTS = 120, BYTES = 22;
        private static final int WIDTH = 5, CHUNKS = 1, PACK = 2, ROWS = 3;
        private static final int THE_END = 0x49454E44, THE_TIME = 0x74494D45;
        private static final int PAGE = 60, MOST_ROWS = 20;

        final int treeNumber, fileNumber;
        private final int[] facts;
        int nodeCount;
        // what is being parsed: the bytes, where they begin, how many there are
        private byte[] source = NO_BYTES;
        private int begin, length;
        // how far it went, and whether what stands there is a FAULT
        private int place;
        private boolean broken;
        private int columns;

        Opening(int treeNumber, int fileNumber, int most) {
            this.treeNumber = treeNumber;
            this.fileNumber = fileNumber;
            facts = new int[Math.max(0, most) * WIDTH];
        }

        /** The format that bytes begin as; 0: none. */
        static int formatOf(byte[] a, int at, int length) {
            if (length >= 4 && u32(a, at) == 0x0A484389) return CHUNKS;
            if (length >= 2 && u8(a, at) == 'P' && u8(a, at + 1) == 'K') return PACK;
            if (length < 4 || u8(a, at) != 'R' || u8(a, at + 1) != 'T' || u8(a, at + 3) != 0) return 0;
            return u8(a, at + 2) >= 1 && u8(a, at + 2) <= 4 ? ROWS : 0;
        }

        /** How many bytes a whole CHUNKS or PACK file has; 0: there is none. */
        int wholeSize(byte[] a, int at, int most) {
            int format = formatOf(a, at, most);
            start(a, at, most);
            if (format == CHUNKS) parsePieces();
            else if (format == PACK) parsePack();
            else broken = true;
            return broken ? 0 : place;
        }

        void parse(byte[] a, int at, int most, int format) {
            start(a, at, most);
            addNode(format, 0, length, 0, NONE);
            if (format == CHUNKS) parsePieces();
            else if (format == PACK) parsePack();
            else parsePages();
            if (broken && nodeCount > 0) facts[3] = place + 1;
            source = NO_BYTES;
        }

        private void start(byte[] a, int at, int most) {
            source = a;
            begin = at;
            length = most;
            nodeCount = 0;
            broken = false;
        }

        int nodeFact(int i, int what) {
            int at = i * WIDTH + what;
            return at < 0 || at >= facts.length ? BAD : facts[at];
        }

        /** NODES in the whole lie side by side and hold all others. */
        int leftOver() {
            int left = nodeFact(0, 2);
            for (int i = 1; i < nodeCount; i++) {
                if (nodeFact(i, 4) == 0) left -= nodeFact(i, 2) - nodeFact(i, 1);
            }
            return left;
        }

        private int addNode(int kind, int from, int to, int value, int parent) {
            int at = nodeCount * WIDTH;
            if (at + WIDTH > facts.length) return NONE;
            facts[at] = kind;
            facts[at + 1] = from;
            facts[at + 2] = to;
            facts[at + 3] = value;
            facts[at + 4] = parent;
            return nodeCount++;
        }

        private int at8(int i) {
            int at = begin + i;
            return i < 0 || i >= length || at < 0 || at >= source.length ? 0 : source[at] & 255;
        }

        private int at16(int i) {
            return at8(i) | at8(i + 1) << 8;
        }

        private int highestFirst(int i) {
            return at8(i) << 24 | at8(i + 1) << 16 | at8(i + 2) << 8 | at8(i + 3);
        }

        // ---- CHUNKS

        private void parsePieces() {
            place = 4;
            for (int i = 0; i < length; i++) {
                int end = pieceEnd(place);
                broken = end < 0;
                if (broken) return;
                int letters = highestFirst(place + 2);
                addPiece(letters, end);
                place = end;
                if (letters == THE_END) return;
            }
        }

        private int pieceEnd(int at) {
            if (at + 10 > length) return NONE;
            for (int i = 2; i < 6; i++) {
                int c = at8(at + i) | 32;
                if (c < 'a' || c > 'z') return NONE;
            }
            int end = at + 10 + (at8(at) << 8 | at8(at + 1));
            return end <= length ? end : NONE;
        }

        private void addPiece(int letters, int end) {
            int piece = addNode(10, place, end, letters, 0);
            int from = place + 6;
            if (letters == THE_TIME && end - from == 8) {
                addNode(12, from, end - 4, highestFirst(from), piece);
                return;
            }
            int crc = crcOf(source, begin + place + 2, begin + end - 4);
            addNode(11, from, end - 4, crc == highestFirst(end - 4) ? 1 : 0, piece);
        }

        // ---- PACK

        private void parsePack() {
            place = 0;
            int entries = 0;
            for (int i = 0; i < length && isMarked(place, 3, 4); i++) {
                int end = entryEnd(place);
                broken = end < 0;
                if (broken) return;
                addEntry(end);
                entries++;
                place = end;
            }
            int firstRow = place;
            int entry = 0;
            for (int i = 0; i < entries; i++) {
                int end = packRowEnd(place, entry);
                broken = end < 0;
                if (broken) return;
                addNode(23, place, end, entry, 0);
                place = end;
                entry = entryEnd(entry);
            }
            broken = place + 7 > length || !isMarked(place, 5, 6) || at8(place + 4) != entries || at16(place + 5) != firstRow;
            if (broken) return;
            addNode(24, place, place + 7, entries, 0);
            place += 7;
        }

        private boolean isMarked(int at, int a, int b) {
            return at + 4 <= length && at8(at) == 'P' && at8(at + 1) == 'K' && at8(at + 2) == a && at8(at + 3) == b;
        }

        private int entryEnd(int at) {
            int letters = at8(at + 4);
            int head = at + 5 + letters;
            if (letters < 1 || letters > 32 || head + 10 > length) return NONE;
            int end = head + 10 + at16(head);
            return end <= length ? end : NONE;
        }

        private void addEntry(int end) {
            int head = place + 5 + at8(place + 4);
            int seconds = at16(head + 6) | at16(head + 8) << 16;
            int told = at16(head + 2) | at16(head + 4) << 16;
            int entry = addNode(20, place, end, seconds, 0);
            addNode(21, place + 5, head, head - place - 5, entry);
            addNode(BYTES, head + 10, end, crcOf(source, begin + head + 10, begin + end) == told ? 1 : 0, entry);
        }

        /** A row has the length and the name as its entry has them, and the entry's place. */
        private int packRowEnd(int at, int entry) {
            int letters = at8(entry + 4);
            int end = at + 5 + letters + 2;
            if (!isMarked(at, 1, 2) || end > length || at16(end - 2) != entry) return NONE;
            return sameBytes(source, begin + at + 4, source, begin + entry + 4, letters + 1) ? end : NONE;
        }

        // ---- ROWS

        private void parsePages() {
            columns = at8(2);
            for (place = 4; place + PAGE <= length; place += PAGE) {
                broken = !isPage();
                if (broken) return;
                addPage();
            }
        }

        private boolean isPage() {
            int rows = at8(place);
            if (rows > MOST_ROWS) return false;
            for (int i = 1; i <= rows; i++) {
                int at = at8(place + i);
                if (at <= rows || at >= PAGE || rowEnd(at) < 0) return false;
            }
            return true;
        }

        /** Where a field of the page ends; above the page's end: it is none. */
        private int fieldEnd(int at) {
            int kind = at8(place + at);
            if (at >= PAGE || kind > 3 || kind == 3 && at + 1 >= PAGE) return PAGE + 1;
            if (kind == 3) return at + 2 + at8(place + at + 1);
            return at + (kind == 2 ? 5 : kind + 1);
        }

        private int rowEnd(int at) {
            int end = at;
            for (int c = 0; c < columns && end <= PAGE; c++) end = fieldEnd(end);
            return end <= PAGE ? end : NONE;
        }

        private void addPage() {
            int rows = at8(place);
            int page = addNode(30, place, place + PAGE, rows, 0);
            long used = 0;
            for (int i = 1; i <= rows; i++) {
                int at = at8(place + i);
                int end = rowEnd(at);
                used |= bitsOf(at, end);
                int row = addNode(31, place + at, place + end, at, page);
                for (int c = 0; c < columns; c++) {
                    int next = fieldEnd(at);
                    addNode(32, place + at, place + next, fieldValue(at), row);
                    at = next;
                }
            }
            for (int at = rows + 1; at < PAGE; at++) {
                int end = rowEnd(at);
                if (end < 0 || end - at == columns || (used & bitsOf(at, end)) != 0) continue;
                addNode(33, place + at, place + end, at, page);
                at = end - 1;
            }
        }

        private static long bitsOf(int from, int to) {
            return (1L << to - from) - 1 << from;
        }

        private int fieldValue(int at) {
            int from = place + at + 1;
            switch (at8(place + at)) {
                case 1: return at8(from);
                case 2: return at16(from) | at16(from + 2) << 16;
                case 3: return at8(from);
                default: return 0;
            }
        }
    }

    /** HITS of a WORD or a PATTERN. */
    private static final class Finder {
        private static final int MOST_HITS = 200, LONGEST_WORD = 32, MOST_ATOMS = 16;

        final int[] hits = new int[3 * MOST_HITS];
        int hitCount;
        private byte[] text = NO_BYTES;
        private int textLength;
        /** For each byte the ATOMS that it meets, a bit for each. */
        private final int[] meets = new int[256];
        private int atoms, starred, optional, wrongAt;
        /** For each place the states from which a match can still end. */
        private final int[] hopes = new int[MOST_BLOCKS * SIZE + 1];

        int findWord(Tree t, byte[] word, int length, byte[] room) {
            if (length < 1 || length > LONGEST_WORD) return PATH;
            text = word;
            textLength = length;
            search(t, room, false);
            return hitCount;
        }

        int findPattern(Tree t, byte[] pattern, int length, byte[] room) {
            text = pattern;
            textLength = length;
            if (!readPattern()) return -100 - wrongAt;
            search(t, room, true);
            return hitCount;
        }

        private void search(Tree t, byte[] room, boolean byPattern) {
            hitCount = 0;
            for (int i = 0; i < t.living + t.lost + t.cut && hitCount < MOST_HITS; i++) {
                Item item = t.items[i];
                if (item.isFolder()) continue;
                int length = t.copyBytes(item, room, room.length);
                if (byPattern) matchIn(room, length, i);
                else wordIn(room, length, i);
            }
            if (byPattern) matchIn(t.image, t.image.length, NONE);
            else wordIn(t.image, t.image.length, NONE);
        }

        private void addHit(int file, int at, int length) {
            if (hitCount >= MOST_HITS) return;
            hits[3 * hitCount] = file;
            hits[3 * hitCount + 1] = at;
            hits[3 * hitCount + 2] = length;
            hitCount++;
        }

        private void wordIn(byte[] a, int length, int file) {
            int first = u8(text, 0);
            for (int at = 0; at + textLength <= length && hitCount < MOST_HITS; at++) {
                if (u8(a, at) == first && sameBytes(a, at, text, 0, textLength)) addHit(file, at, textLength);
            }
        }

        // ---- reading a pattern

        private boolean readPattern() {
            clearAtoms();
            wrongAt = 0;
            int at = 0;
            while (at < textLength) {
                wrongAt = at;
                if (atoms >= MOST_ATOMS) return false;
                at = readAtom(at);
                if (at < 0) return false;
                int c = u8(text, at);
                if (at < textLength && (c == '*' || c == '?')) {
                    if (c == '*') starred |= 1 << atoms;
                    optional |= 1 << atoms;
                    at++;
                }
                atoms++;
            }
            return atoms > 0;
        }

        private void clearAtoms() {
            atoms = 0;
            starred = 0;
            optional = 0;
            for (int c = 0; c < 256; c++) meets[c] = 0;
        }

        private void meet(int from, int to) {
            for (int c = Math.max(0, from); c <= to && c < 256; c++) meets[c] |= 1 << atoms;
        }

        private int wrong(int at) {
            wrongAt = at;
            return NONE;
        }

        /** Where the ATOM ends that begins at a place; NONE: it is wrong. */
        private int readAtom(int at) {
            int c = u8(text, at);
            if (c == '*' || c == '?' || c == ']') return wrong(at);
            if (c == '[') return readSet(at + 1);
            if (c == '.') {
                meet(0, 255);
                return at + 1;
            }
            int letter = c == '\\' ? at + 1 : at;
            if (letter >= textLength) return wrong(textLength);
            meet(u8(text, letter), u8(text, letter));
            return letter + 1;
        }

        private int readSet(int begin) {
            int at = begin;
            while (at < textLength && u8(text, at) != ']') {
                int c = u8(text, at);
                boolean range = at + 2 < textLength && u8(text, at + 1) == '-' && u8(text, at + 2) != ']';
                int to = range ? u8(text, at + 2) : c;
                if (to < c) return wrong(at + 2);
                meet(c, to);
                at += range ? 3 : 1;
            }
            if (at >= textLength) return wrong(textLength);
            return at == begin ? wrong(at) : at + 1;
        }

        // ---- matching: a state is how many ATOMS are behind it

        private void matchIn(byte[] a, int length, int file) {
            if (length < 0 || length >= hopes.length) return;
            int done = 1 << atoms;
            hopes[length] = backward(done);
            for (int at = length - 1; at >= 0; at--) {
                int ways = meets[u8(a, at)];
                int next = hopes[at + 1];
                hopes[at] = backward(done | ways & next >> 1 | ways & starred & next);
            }
            int start = forward(1);
            int at = 0;
            while (at < length && hitCount < MOST_HITS) {
                int end = at;
                int states = start & hopes[at];
                while (states != 0 && end < length) {
                    int ways = meets[u8(a, end)] & states;
                    states = forward(ways << 1 | ways & starred) & hopes[end + 1];
                    if (states != 0) end++;
                }
                if (end > at) addHit(file, at, end - at);
                at = Math.max(end, at + 1);
            }
        }

        /** With the states that ATOMS which may be left out lead to. */
        private int forward(int states) {
            int all = states;
            for (int i = 0; i < atoms; i++) {
                if ((all & optional & 1 << i) != 0) all |= 2 << i;
            }
            return all;
        }

        /** With the states that lead there by ATOMS which may be left out. */
        private int backward(int states) {
            int all = states;
            for (int i = atoms - 1; i >= 0; i--) {
                if ((optional & 1 << i) != 0 && (all & 2 << i) != 0) all |= 1 << i;
            }
            return all;
        }
    }

    /** QUESTIONS to a TREE, and the ROWS of the latest good one. */
    private static final class Query {
        private static final String WORDS = "kind    size    made    altered erased  grade   block   parts   faults  depth   name    ";
        private static final int WORD_WIDTH = 8, FIELDS = 10, NAME = 10, DEEPEST_NEST = 12, MOST_DIGITS = 9, MOST_LETTERS = 20;
        private static final int AND = 1, OR = 2, NOT = 3, LETTERS = 4, COMPARE = 5;
        private static final int BLOCK_FIELD = 6;
        private static final long BEHIND_ALL = 0x7FFFFFFFFFFFFFFFL;

        final int[] rows = new int[MOST_FILES];
        int rowCount;
        private final long[] keys = new long[MOST_FILES];
        // the question as code: deeds, each behind what it works on
        private final int[] code = new int[MOST_COLLECTED];
        private int codeCount;
        private byte[] text = NO_BYTES;
        private int textLength, place;
        private int sortField;
        private boolean falling;
        private boolean has;

        int ask(Tree t, byte[] question, int length) {
            text = question;
            textLength = Math.min(length, question.length);
            place = 0;
            codeCount = 0;
            sortField = NONE;
            falling = false;
            boolean good = readTest(0);
            if (good && place < textLength) good = readLetters("sort") && readOrder();
            if (!good) return -100 - place;
            rowCount = 0;
            for (int i = 0; i < t.total; i++) {
                if (isTrue(t, t.items[i])) addRow(t, i);
            }
            return rowCount;
        }

        // ---- reading; what can't go on stops at its place

        private boolean readOrder() {
            falling = nextIs('-');
            skipBlanks();
            sortField = readWord(FIELDS);
            if (sortField < 0) return false;
            skipBlanks();
            return place >= textLength;
        }

        private int next() {
            return place < textLength ? text[place] & 255 : NONE;
        }

        private void skipBlanks() {
            while (place < textLength && text[place] == ' ') place++;
        }

        /** Whether a sign comes next, behind blanks; it is read then. */
        private boolean nextIs(int sign) {
            while (place < textLength && text[place] == ' ') place++;
            if (place >= textLength || text[place] != sign) return false;
            place++;
            return true;
        }

        private boolean readLetters(String letters) {
            for (int i = 0; i < letters.length(); i++) {
                if (next() != letters.charAt(i)) return false;
                place++;
            }
            return true;
        }

        /** The number of the word, of so many first ones, that comes; NONE. None begins another one. */
        private int readWord(int words) {
            int open = (1 << words) - 1;
            for (int k = 0; k < WORD_WIDTH; k++) {
                int going = 0;
                int c = next();
                for (int w = 0; w < words; w++) {
                    if ((open & 1 << w) != 0 && c != ' ' && WORDS.charAt(w * WORD_WIDTH + k) == c) going |= 1 << w;
                }
                if (going == 0) return NONE;
                open = going;
                place++;
                for (int w = 0; w < words; w++) {
                    if ((open & 1 << w) != 0 && (k + 1 == WORD_WIDTH || WORDS.charAt(w * WORD_WIDTH + k + 1) == ' ')) return w;
                }
            }
            return NONE;
        }

        private boolean readTest(int depth) {
            if (!readAnd(depth)) return false;
            for (int i = 0; i < textLength && nextIs('|'); i++) {
                if (!readAnd(depth)) return false;
                emit(OR);
            }
            return true;
        }

        private boolean readAnd(int depth) {
            if (!readOne(depth)) return false;
            for (int i = 0; i < textLength && nextIs('&'); i++) {
                if (!readOne(depth)) return false;
                emit(AND);
            }
            return true;
        }

        private boolean readOne(int depth) {
            skipBlanks();
            int c = next();
            if (c == '!' || c == '(') {
                if (depth >= DEEPEST_NEST) return false;
                place++;
                if (c == '(') return readTest(depth + 1) && nextIs(')');
                if (!readOne(depth + 1)) return false;
                emit(NOT);
                return true;
            }
            int word = readWord(FIELDS + 1);
            if (word < 0) return false;
            return word == NAME ? readNameTest() : readFieldTest(word);
        }

        private boolean readFieldTest(int field) {
            skipBlanks();
            int sign = next();
            if (sign != '=' && sign != '<' && sign != '>' && sign != '#') return false;
            place++;
            skipBlanks();
            int digits = 0;
            int number = 0;
            while (next() >= '0' && next() <= '9') {
                if (digits == MOST_DIGITS) return false;
                number = 10 * number + next() - '0';
                digits++;
                place++;
            }
            if (digits == 0) return false;
            emit(COMPARE);
            emit(field);
            emit(sign);
            emit(number);
            return true;
        }

        private boolean readNameTest() {
            if (!nextIs('~') || !nextIs('\'')) return false;
            int from = place;
            while (place < textLength && next() != '\'') {
                if (place - from == MOST_LETTERS) return false;
                place++;
            }
            if (place >= textLength || place == from) return false;
            emit(LETTERS);
            emit(from);
            emit(place);
            place++;
            return true;
        }

        private void emit(int v) {
            if (codeCount < code.length) code[codeCount++] = v;
        }

        private int codeAt(int i) {
            return i < codeCount ? code[i] : 0;
        }

        // ---- answering

        private boolean isTrue(Tree t, Item item) {
            long stack = 0;
            int i = 0;
            while (i < codeCount) {
                int deed = codeAt(i++);
                if (deed == NOT) {
                    stack ^= 1;
                } else if (deed == AND || deed == OR) {
                    long top = stack & 1;
                    stack >>>= 1;
                    stack = deed == AND ? stack & (top | -2L) : stack | top;
                } else if (deed == LETTERS) {
                    stack = stack << 1 | (hasLetters(item, codeAt(i), codeAt(i + 1)) ? 1 : 0);
                    i += 2;
                } else {
                    stack = stack << 1 | (compares(t, item, i) ? 1 : 0);
                    i += 3;
                }
            }
            return (stack & 1) != 0;
        }

        private boolean hasLetters(Item item, int from, int to) {
            int n = to - from;
            for (int i = 0; i + n <= item.letters.length; i++) {
                if (sameBytes(item.letters, i, text, from, n)) return true;
            }
            return false;
        }

        private boolean compares(Tree t, Item item, int at) {
            long value = valueOf(t, item, codeAt(at));
            int sign = codeAt(at + 1);
            int number = codeAt(at + 2);
            if (!has) return false;
            if (sign == '=') return value == number;
            if (sign == '#') return value != number;
            return sign == '<' ? value < number : value > number;
        }

        /** A FIELD of a FILE; has tells whether it has it. */
        private long valueOf(Tree t, Item item, int field) {
            has = true;
            switch (field) {
                case 0: return item.kind;
                case 1: return item.size;
                case 2:
                case 3:
                case 4:
                    has = item.hasMoment(field - 2);
                    return item.moment(field - 2, t.form.zone);
                case 5: return item.grade;
                case BLOCK_FIELD:
                    has = item.blockAt(0) >= 0;
                    return item.blockAt(0);
                case 7: return item.blocks.length;
                case 8: return item.faults;
                default: return item.depth;
            }
        }

        private void addRow(Tree t, int file) {
            if (rowCount >= rows.length) return;
            long key = sortField < 0 ? 0 : valueOf(t, t.items[file], sortField);
            if (falling) key = -key;
            if (sortField >= 0 && !has) key = BEHIND_ALL;
            int at = rowCount++;
            while (at > 0 && keys[at - 1] > key) {
                keys[at] = keys[at - 1];
                rows[at] = rows[at - 1];
                at--;
            }
            keys[at] = key;
            rows[at] = file;
        }
    }

    /** Moments in their order, and what contradicts. */
    private static final class TimeLine {
        private static final int MOST_MOMENTS = 3200, MOST_DOUBTS = 3 * MOST_TREES * MOST_FILES, NODE_TIME = 12;

        private final long[] moments = new long[MOST_MOMENTS];
        /** TREE, FILE, which and GRAIN of each, in one number. */
        private final int[] marks = new int[MOST_MOMENTS];
        int momentCount;
        private final int[] doubtMarks = new int[MOST_DOUBTS];
        int doubtCount;

        private static int markOf(int tree, int file, int which, int grain) {
            return ((tree << 8 | file) << 2 | which) << 2 | grain;
        }

        private void addMoment(long moment, int mark) {
            if (momentCount >= MOST_MOMENTS) return;
            moments[momentCount] = moment;
            marks[momentCount++] = mark;
        }

        void addMoments(Tree t, int tree, int file) {
            Item item = file < t.total ? t.items[file] : null;
            for (int which = 0; which < 3 && item != null; which++) {
                if (item.hasMoment(which)) addMoment(item.moment(which, t.form.zone), markOf(tree, file, which, item.grain()));
            }
        }

        void addNodes(Opening o, int tree, int file) {
            if (o == null || o.treeNumber != tree || o.fileNumber != file) return;
            for (int i = 0; i < o.nodeCount; i++) {
                if (o.nodeFact(i, 0) == NODE_TIME) addMoment(unsigned(o.nodeFact(i, 3)), markOf(tree, file, 3, 1));
            }
        }

        /** They came by TREE, FILE and which: only the moments are sorted. */
        void sortMoments() {
            for (int i = 1; i < momentCount; i++) {
                long moment = moments[i];
                int mark = marks[i];
                int at = i;
                while (at > 0 && moments[at - 1] > moment) {
                    moments[at] = moments[at - 1];
                    marks[at] = marks[at - 1];
                    at--;
                }
                moments[at] = moment;
                marks[at] = mark;
            }
        }

        long momentFact(int i, int what) {
            if (i < 0 || i >= MOST_MOMENTS) return BAD;
            if (what == 0) return moments[i];
            if (what == 1) return marks[i] & 3;
            if (what == 2) return marks[i] >> 12;
            return what == 3 ? marks[i] >> 4 & 255 : marks[i] >> 2 & 3;
        }

        private void addDoubt(int tree, int file, int which) {
            if (doubtCount < MOST_DOUBTS) doubtMarks[doubtCount++] = markOf(tree, file, which, 0);
        }

        void addDoubts(Tree t, int tree, int now) {
            for (int file = 0; t != null && file < t.total; file++) {
                Item f = t.items[file];
                long made = f.moment(0, t.form.zone);
                long altered = f.moment(1, t.form.zone);
                long erased = f.moment(2, t.form.zone);
                if (!f.hasMoment(1)) continue;
                if (f.hasMoment(0) && made >= altered + f.grain()) addDoubt(tree, file, 1);
                if (f.hasMoment(2) && altered >= erased + f.grain()) addDoubt(tree, file, 2);
                if (altered > now) addDoubt(tree, file, 3);
            }
        }

        int doubtFact(int i, int what) {
            if (i < 0 || i >= MOST_DOUBTS) return BAD;
            if (what == 0) return doubtMarks[i] >> 12;
            return what == 1 ? doubtMarks[i] >> 4 & 255 : doubtMarks[i] >> 2 & 3;
        }
    }
}
