/** Promises 19 to 22 with CELLS: the bytes that format, save, folder and erase leave. */
public final class CellsMakerTest {
    private static final Kit KIT = new Kit("CellsMaker");

    public static void main(String[] args) {
        formatted();
        wrongFormats();
        savedAnew();
        savedAgain();
        chainsOfTwoTables();
        folders();
        growing();
        erasing();
        paths();
        full();
        zones();
        damaged();
        noForm();
        KIT.finish();
    }

    private static int b(DiskEvidence x, int i) {
        return x.volumeByte(0, i);
    }

    private static int b2(DiskEvidence x, int i) {
        return b(x, i) + 256 * b(x, i + 1);
    }

    private static int b4(DiskEvidence x, int i) {
        return b2(x, i) + 65536 * b2(x, i + 2);
    }

    private static String text(DiskEvidence x, int from, int n) {
        StringBuilder s = new StringBuilder();
        for (int i = from; i < from + n; i++) s.append((char) b(x, i));
        return s.toString();
    }

    private static String cells(DiskEvidence x, int n) {
        StringBuilder s = new StringBuilder();
        for (int c = 0; c < n; c++) s.append(Integer.toHexString(b2(x, 64 + 2 * c))).append(' ');
        return s.toString();
    }

    private static void formatted() {
        DiskEvidence x = Kit.disk(20, 99);
        KIT.due("format", x.format(0, 1, 8 * 40 + 2 * 2 + 1), 0);
        KIT.due("its head", text(x, 0, 8), "CF\2\1\24\0\3\u00f8");
        KIT.due("its last bytes", text(x, 60, 4), "\0\0\u0055\u00aa");
        KIT.due("its cells", cells(x, 4), "fff8 fff8 0 0 ");
        KIT.due("its second table", b4(x, 128), 0xFFF8FFF8);
        KIT.due("all else is 0", x.crc(0, 192, 1280 - 192), Kit.crc(new byte[1280 - 192]));
        DiskEvidence big = Kit.disk(128);
        big.format(0, 1, 48 * 8);
        KIT.due("the least t for 128 blocks", b(big, 3), 4);
        DiskEvidence exact = Kit.disk(33);
        exact.format(0, 1, 48 * 8);
        KIT.due("t for 30 clusters", b(exact, 3), 1);
        DiskEvidence more = Kit.disk(34);
        more.format(0, 1, 48 * 8);
        KIT.due("t for 31 clusters", b(more, 3), 2);
    }

    private static void wrongFormats() {
        DiskEvidence x = Kit.disk(3);
        x.poke(0, 0, 7);
        KIT.due("kind 0", x.format(0, 0, 0), -2);
        KIT.due("kind 4", x.format(0, 4, 0), -2);
        KIT.due("argument -1", x.format(0, 1, -1), -2);
        KIT.due("argument 776", x.format(0, 1, 776), -2);
        KIT.due("volume 1", x.format(1, 1, 0), -2);
        KIT.due("three blocks", x.format(0, 1, 775), -5);
        KIT.due("three blocks, one root block", x.format(0, 1, 0), -5);
        KIT.due("nothing is done", b(x, 0), 7);
        DiskEvidence four = Kit.disk(4);
        KIT.due("four blocks", four.format(0, 1, 0), 0);
        KIT.due("four blocks, two tables", four.format(0, 1, 1), -5);
        KIT.due("four blocks, two root blocks", four.format(0, 1, 2), -5);
        DiskEvidence eight = Kit.disk(8);
        KIT.due("eight blocks, all", eight.format(0, 1, 775), 0);
        KIT.due("zone 48", b(eight, 7), 48);
    }

    /** Twenty blocks: one table, a root of two blocks (2, 3), clusters from block 4 on, zone 0. */
    private static DiskEvidence disk() {
        DiskEvidence x = Kit.disk(20);
        x.format(0, 1, 48 * 8 + 2);
        x.tick(1001);
        return x;
    }

    private static void savedAnew() {
        DiskEvidence x = disk();
        KIT.due("save", Kit.save(x, 0, "FILE1.AB", Kit.many('x', 70)), 2);
        KIT.due("COLLECTED", x.count(0), 0);
        KIT.due("its name", text(x, 128, 11), "FILE1   AB ");
        KIT.due("byte 11", b(x, 139), 0);
        KIT.due("made", b4(x, 142), 500);
        KIT.due("altered", b4(x, 146), 500);
        KIT.due("the first cluster", b2(x, 154), 2);
        KIT.due("the size", b4(x, 156), 70);
        KIT.due("what is not told", b2(x, 140) + b4(x, 150), 0);
        KIT.due("the cells", cells(x, 5), "fff8 fff8 3 ffff 0 ");
        KIT.due("the contents", text(x, 256, 72), Kit.many('x', 70) + "\0\0");
        KIT.due("a file without bytes", Kit.save(x, 0, "EMPTY", ""), 0);
        KIT.due("its row", text(x, 160, 12), "EMPTY      \0");
        KIT.due("its first cluster", b2(x, 186), 0);
        Kit.text(x, "ALONE");
        KIT.due("a path alone", x.save(0), 0);
        KIT.due("its row, too", text(x, 192, 11), "ALONE      ");
        KIT.due("contents with a byte 0", Kit.save(x, 0, "Z", "a\0b"), 1);
        KIT.due("its size", b4(x, 192 + 32 + 28), 3);
        KIT.due("its bytes", text(x, 64 * 6, 4), "a\0b\0");
    }

    private static void savedAgain() {
        DiskEvidence x = disk();
        Kit.save(x, 0, "A", Kit.many('a', 130));
        Kit.save(x, 0, "B", Kit.many('b', 64));
        x.tick(1000);
        KIT.due("one block now", Kit.save(x, 0, "A", "new"), 1);
        KIT.due("cells", cells(x, 7), "fff8 fff8 ffff 0 0 ffff 0 ");
        KIT.due("made as before", b4(x, 142), 500);
        KIT.due("altered now", b4(x, 146), 1000);
        KIT.due("size", b4(x, 156), 3);
        KIT.due("0s behind the end", text(x, 256, 5), "new\0\0");
        KIT.due("what it lost stays", b(x, 320), 'a');
        KIT.due("four blocks, round B", Kit.save(x, 0, "A", Kit.many('c', 256)), 4);
        KIT.due("cells, too", cells(x, 8), "fff8 fff8 3 4 6 ffff ffff 0 ");
        KIT.due("no bytes", Kit.save(x, 0, "A", ""), 0);
        KIT.due("no first cluster", b2(x, 154), 0);
        KIT.due("cells at last", cells(x, 8), "fff8 fff8 0 0 0 ffff 0 0 ");
    }

    private static void chainsOfTwoTables() {
        DiskEvidence x = Kit.disk(20);
        x.format(0, 1, 48 * 8 + 1);
        Kit.save(x, 0, "A", Kit.many('a', 100));
        KIT.due("the second table", b2(x, 128 + 4) * 65536 + b2(x, 128 + 6), 3 * 65536 + 0xFFFF);
        x.poke(0, 64 + 8, 9);
        KIT.due("free by the first table", Kit.save(x, 0, "B", "b"), 1);
        KIT.due("its cell", b2(x, 64 + 10), 0xFFFF);
        Kit.erase(x, 0, "A");
        KIT.due("both are 0", b4(x, 64 + 4) + b4(x, 128 + 4), 0);
    }

    private static void folders() {
        DiskEvidence x = disk();
        KIT.due("folder", Kit.folder(x, 0, "D"), 0);
        KIT.due("byte 11", b(x, 139), 16);
        KIT.due("size", b4(x, 156), 0);
        KIT.due("its block", b2(x, 154), 2);
        KIT.due("cells", cells(x, 4), "fff8 fff8 ffff 0 ");
        KIT.due("folder again", Kit.folder(x, 0, "D"), -4);
        KIT.due("a file there", Kit.save(x, 0, "D", "x"), -4);
        KIT.due("a file in it", Kit.save(x, 0, "D/F", "x"), 1);
        KIT.due("its row", text(x, 256, 11), "F          ");
        KIT.due("a folder where a file is", Kit.folder(x, 0, "D/F"), -4);
        KIT.due("a file in a file", Kit.save(x, 0, "D/F/G", "x"), -4);
        KIT.due("a folder in it", Kit.folder(x, 0, "D/E"), 0);
        x.tick(500);
        KIT.due("a file in that", Kit.save(x, 0, "D/E/X", ""), 0);
        KIT.due("folders' moments stay", b4(x, 146), 500);
        KIT.due("a byte 0 in the path", Kit.folder(x, 0, "Q\0"), -4);
    }

    private static void growing() {
        DiskEvidence x = disk();
        Kit.folder(x, 0, "D");
        Kit.save(x, 0, "D/A", "");
        Kit.save(x, 0, "D/B", "");
        KIT.due("the third row", Kit.save(x, 0, "D/C", "c"), 1);
        KIT.due("the folder's block comes first", cells(x, 6), "fff8 fff8 3 ffff ffff 0 ");
        KIT.due("its row is the first there", text(x, 320, 3), "C  ");
        KIT.due("the contents", b(x, 384), 'c');
        KIT.due("erase", Kit.erase(x, 0, "D/A"), 0);
        KIT.due("an erased row", b(x, 256), 0xE5);
        KIT.due("is taken again", Kit.save(x, 0, "D/N", ""), 0);
        KIT.due("there", text(x, 256, 2), "N ");
        Kit.poke2(x, 0, 154, 0);
        KIT.due("a folder without clusters", Kit.save(x, 0, "D/M", ""), 0);
        KIT.due("its row leads to the new one", b2(x, 154), 5);
        Kit.save(x, 0, "E", "");
        Kit.save(x, 0, "F", "");
        Kit.save(x, 0, "G", "");
        KIT.due("a root does not grow", Kit.save(x, 0, "H", ""), -3);
        KIT.due("FULL leaves nothing", x.count(0), 0);
    }

    private static void erasing() {
        DiskEvidence x = disk();
        Kit.save(x, 0, "A", Kit.many('a', 100));
        Kit.folder(x, 0, "D");
        Kit.save(x, 0, "D/B", "b");
        KIT.due("nothing is there", Kit.erase(x, 0, "C"), -4);
        KIT.due("nor there", Kit.erase(x, 0, "C/A"), -4);
        KIT.due("a folder with a row", Kit.erase(x, 0, "D"), -4);
        KIT.due("a file", Kit.erase(x, 0, "D/B"), 0);
        KIT.due("an empty folder", Kit.erase(x, 0, "D"), 0);
        KIT.due("erase", Kit.erase(x, 0, "A"), 0);
        KIT.due("cells", cells(x, 7), "fff8 fff8 0 0 0 0 0 ");
        KIT.due("all else stays", text(x, 128, 3) + b2(x, 154) + " " + b4(x, 156), "\u00e5  2 100");
        KIT.due("erase it again", Kit.erase(x, 0, "A"), -4);
        x.collect(0, 8);
        KIT.due("a bad volume", x.erase(1), -2);
        KIT.due("leaves COLLECTED", x.count(0), 8);
        KIT.due("no path", x.erase(0), -4);
        KIT.due("COLLECTED are empty", x.count(0), 0);
    }

    private static void paths() {
        DiskEvidence x = disk();
        String[] wrong = {"", "/", "A/", "/A", "A//B", "a", "A B", "ABCDEFGHI", "A.", ".A", "A.BCDE", "A.B.C", "A..B", "A*", "\u00c1"};
        for (String path : wrong) {
            KIT.due("save " + path, Kit.save(x, 0, path, "x"), -4);
            KIT.due("folder " + path, Kit.folder(x, 0, path), -4);
            KIT.due("erase " + path, Kit.erase(x, 0, path), -4);
        }
        KIT.due("a long name", Kit.save(x, 0, "ABCD5678.901", "x"), 1);
        KIT.due("the longest path", Kit.folder(x, 0, "D"), 0);
        String path = "D";
        for (int i = 0; i < 4; i++) {
            path += "/D";
            KIT.due("folder " + path, Kit.folder(x, 0, path), 0);
        }
        KIT.due("six names", Kit.save(x, 0, path + "/F", "x"), 1);
        KIT.due("a folder of depth 5", Kit.folder(x, 0, path + "/G"), 0);
        KIT.due("seven names", Kit.save(x, 0, path + "/G/F", "x"), -4);
        DiskEvidence y = Kit.disk(40);
        y.format(0, 1, 48 * 8 + 2);
        Kit.folder(y, 0, "ABCDEFGH.IJK");
        Kit.folder(y, 0, "ABCDEFGH.IJK/ABCDEFGH.IJK");
        KIT.due("40 bytes", Kit.save(y, 0, "ABCDEFGH.IJK/ABCDEFGH.IJK/ABCDEFGHIJ.KLM", ""), -4);
        KIT.due("38 bytes", Kit.save(y, 0, "ABCDEFGH.IJK/ABCDEFGH.IJK/ABCDEFGH.KLM", ""), 0);
        Kit.folder(y, 0, "ABCDEFGH.IJK/ABCDEFGH.IJK/ABCDEFGH");
        KIT.due("40 bytes, four names", Kit.save(y, 0, "ABCDEFGH.IJK/ABCDEFGH.IJK/ABCDEFGH/ABCDE", ""), 0);
        KIT.due("41 bytes, four names", Kit.save(y, 0, "ABCDEFGH.IJK/ABCDEFGH.IJK/ABCDEFGH/ABCDEF", ""), -4);
    }

    private static void full() {
        DiskEvidence x = disk();
        KIT.due("16 clusters", Kit.save(x, 0, "A", Kit.many('a', 16 * 64)), 16);
        KIT.due("no more", Kit.save(x, 0, "B", "b"), -3);
        KIT.due("no folder", Kit.folder(x, 0, "B"), -3);
        KIT.due("a file without bytes", Kit.save(x, 0, "B", ""), 0);
        long before = x.crc(0, 0, 1280);
        KIT.due("17 clusters", Kit.save(x, 0, "A", Kit.many('z', 16 * 64 + 1)), -3);
        KIT.due("nothing is done", x.crc(0, 0, 1280), before);
        KIT.due("PATH goes before FULL", Kit.save(x, 0, "A/B", "b"), -4);
        KIT.due("its own clusters are free first", Kit.save(x, 0, "A", Kit.many('y', 16 * 64)), 16);
    }

    private static void zones() {
        DiskEvidence x = Kit.disk(20);
        x.format(0, 1, 2);
        x.tick(43199);
        Kit.save(x, 0, "A", "");
        KIT.due("before its zone's 0", b4(x, 142), 0);
        x.tick(4);
        Kit.save(x, 0, "B", "");
        KIT.due("3 seconds behind it", b4(x, 174), 1);
        DiskEvidence y = Kit.disk(20);
        y.format(0, 1, 8 * 96 + 2);
        y.tick(1);
        Kit.save(y, 0, "A", "");
        KIT.due("in the last zone", b4(y, 142), 21600);
    }

    private static void damaged() {
        DiskEvidence x = disk();
        Kit.save(x, 0, "A", Kit.many('a', 200));
        Kit.poke2(x, 0, 64 + 6, 2);
        KIT.due("a chain that comes to itself", Kit.erase(x, 0, "A"), 0);
        KIT.due("its cells", cells(x, 7), "fff8 fff8 0 0 5 ffff 0 ");
        Kit.save(x, 0, "B", "b");
        x.poke(0, 128, 'B');
        Kit.save(x, 0, "C", "c");
        x.poke(0, 160, 'B');
        KIT.due("the first of a name", Kit.save(x, 0, "B", "other"), 1);
        KIT.due("is altered", b4(x, 156), 5);
        x.poke(0, 128, 0);
        KIT.due("behind a row that is none", Kit.erase(x, 0, "B"), -4);
    }

    private static void noForm() {
        DiskEvidence x = disk();
        x.poke(0, 2, 3);
        KIT.due("save", Kit.save(x, 0, "", ""), -5);
        KIT.due("folder", Kit.folder(x, 0, "A"), -5);
        KIT.due("erase", Kit.erase(x, 0, "A"), -5);
        KIT.due("mount", x.mount(0), -5);
        KIT.due("COLLECTED are empty", x.count(0), 0);
    }
}
