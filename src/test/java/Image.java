import java.util.Arrays;

/** The bytes of a disk, written by a test and read by picture() as PACKED. */
final class Image {
    final int sectors;
    final byte[] a;
    private final boolean[] spoilt;
    private int tables;
    private int tableBlocks;

    Image(int sectors) {
        this.sectors = sectors;
        a = new byte[64 * sectors];
        spoilt = new boolean[sectors];
    }

    Image b(int at, int v) {
        a[at] = (byte) v;
        return this;
    }

    Image b2(int at, int v) {
        return b(at, v).b(at + 1, v >> 8);
    }

    Image b4(int at, long v) {
        return b2(at, (int) v).b2(at + 2, (int) (v >> 16));
    }

    Image text(int at, String s) {
        for (int i = 0; i < s.length(); i++) b(at + i, s.charAt(i));
        return this;
    }

    Image fill(int at, int n, int v) {
        Arrays.fill(a, at, at + n, (byte) v);
        return this;
    }

    Image spoil(int sector) {
        spoilt[sector] = true;
        return this;
    }

    /** PACKED, each SECTOR as short as can be. */
    String packed() {
        StringBuilder s = new StringBuilder("PX").append(Formats.low(sectors, 2));
        for (int i = 0; i < sectors; i++) {
            boolean same = true;
            for (int k = 1; k < 64; k++) same &= a[64 * i + k] == a[64 * i];
            if (spoilt[i]) s.append('\3');
            else if (same && a[64 * i] == 0) s.append('\0');
            else if (same) s.append('\2').append((char) (a[64 * i] & 255));
            else {
                s.append('\1');
                for (int k = 0; k < 64; k++) s.append((char) (a[64 * i + k] & 255));
            }
        }
        return s.append(Formats.low(Kit.crc(Kit.raw(s.toString())), 4)).toString();
    }

    // ---- TABLES OF PARTS

    Image table(int sector) {
        return b(64 * sector + 62, 0x55).b(64 * sector + 63, 0xAA);
    }

    Image part(int sector, int row, int kind, int begin, int count) {
        int at = 64 * sector + 16 + 8 * row;
        return b(at, kind).b2(at + 2, begin).b2(at + 4, count);
    }

    // ---- CELLS

    static Image cells(int sectors, int tables, int t, int r, int zone) {
        Image m = new Image(sectors);
        m.tables = tables;
        m.tableBlocks = t;
        m.text(0, "CF").b(2, tables).b(3, t).b2(4, sectors).b(6, r).b(7, zone).b(62, 0x55).b(63, 0xAA);
        return m.cell(0, 0xFFF8).cell(1, 0xFFF8);
    }

    /** The CELL of a CLUSTER in all TABLES. */
    Image cell(int c, int v) {
        for (int k = 0; k < tables; k++) cellIn(k, c, v);
        return this;
    }

    Image cellIn(int table, int c, int v) {
        return b2(64 * (1 + table * tableBlocks) + 2 * c, v);
    }

    /** CLUSTERS one behind the other. */
    Image chain(int from, int to) {
        for (int c = from; c < to; c++) cell(c, c + 1);
        return cell(to, 0xFFFF);
    }

    int rootAt() {
        return 64 * (1 + tables * tableBlocks);
    }

    /** Row i of the root; of a NAME the parts are told by the dot. */
    Image root(int i, String name, int kind, int cluster, long size) {
        return row(rootAt() + 32 * i, name, kind, cluster, size);
    }

    Image row(int at, String name, int kind, int cluster, long size) {
        int dot = name.indexOf('.');
        fill(at, 11, ' ');
        text(at, dot < 0 ? name : name.substring(0, dot));
        text(at + 8, dot < 0 ? "" : name.substring(dot + 1));
        return b(at + 11, kind).b2(at + 26, cluster).b4(at + 28, size);
    }

    Image rowMoments(int at, long made, long altered) {
        return b4(at + 14, made).b4(at + 18, altered);
    }

    // ---- NODES

    /** The root has the first DATA BLOCK; all is in the maps. */
    static Image nodes(int sectors, int m) {
        Image x = new Image(sectors);
        int data = 3 + m / 2;
        x.text(0, "NF").b(2, m).b2(4, sectors).b(62, 0x33).b(63, 0x77).b(64, 1);
        for (int b = 0; b <= data; b++) x.takes(b);
        return x.node(1, 2, 64, data);
    }

    static int nodeAt(int node) {
        return 192 + 32 * (node - 1);
    }

    /** A node that the map has, with its first places. */
    Image node(int node, int kind, int size, int... places) {
        int at = nodeAt(node);
        a[64 + node / 8] |= 1 << node % 8;
        b(at, kind).b(at + 1, kind == 0 ? 0 : 1).b2(at + 2, size);
        for (int k = 0; k < places.length; k++) b2(at + 16 + 2 * k, places[k]);
        return this;
    }

    Image further(int node, int block) {
        return b2(nodeAt(node) + 30, block);
    }

    Image moments(int node, long made, long altered, long erased) {
        int at = nodeAt(node);
        return b4(at + 4, made).b4(at + 8, altered).b4(at + 12, erased);
    }

    /** The map has these BLOCKS, too. */
    Image takes(int... blocks) {
        for (int block : blocks) a[128 + block / 8] |= 1 << block % 8;
        return this;
    }

    /** Row i of a folder's BLOCK. */
    Image named(int block, int i, int node, String name) {
        return b2(64 * block + 16 * i, node).text(64 * block + 16 * i + 2, name);
    }

    // ---- TAPE

    Image entry(int block, String path, char kind, long size, long altered) {
        int at = 64 * block;
        fill(at, 64, 0);
        text(at, path).b(at + 24, kind).text(at + 25, octal(size, 7)).text(at + 32, octal(altered, 12)).text(at + 51, "tape1");
        return seal(block);
    }

    /** The right SUM of a HEADER. */
    Image seal(int block) {
        int at = 64 * block;
        int sum = 7 * 32;
        for (int i = 0; i < 64; i++) if (i < 44 || i > 50) sum += a[at + i] & 255;
        return text(at + 44, octal(sum, 7));
    }

    static String octal(long v, int digits) {
        StringBuilder s = new StringBuilder();
        for (int i = digits - 1; i >= 0; i--) s.append((char) ('0' + (v >> 3 * i & 7)));
        return s.toString();
    }
}
