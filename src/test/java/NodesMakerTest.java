/** Promises 19 to 22 with NODES and TAPE: the bytes that format, save, folder and erase leave. */
public final class NodesMakerTest {
    private static final Kit KIT = new Kit("NodesMaker");

    public static void main(String[] args) {
        formatted();
        savedAnew();
        savedAgain();
        furtherBlocks();
        folders();
        growing();
        erasing();
        paths();
        full();
        damaged();
        tapes();
        tapeLimits();
        onlyWhatChanged();
        KIT.finish();
    }

    private static int b(DiskEvidence x, int i) {
        return x.volumeByte(0, i);
    }

    private static int b2(DiskEvidence x, int i) {
        return b(x, i) + 256 * b(x, i + 1);
    }

    private static int b4(DiskEvidence x, int i) {
        return b2(x, i) + 65536 * b2(x, i + 2);
    }

    private static String text(DiskEvidence x, int from, int n) {
        StringBuilder s = new StringBuilder();
        for (int i = from; i < from + n; i++) s.append((char) b(x, i));
        return s.toString();
    }

    private static int nodeAt(int node) {
        return 192 + 32 * (node - 1);
    }

    private static String places(DiskEvidence x, int node) {
        StringBuilder s = new StringBuilder();
        for (int k = 0; k < 8; k++) s.append(b2(x, nodeAt(node) + 16 + 2 * k)).append(' ');
        return s.toString();
    }

    private static String node(DiskEvidence x, int node) {
        int at = nodeAt(node);
        return b(x, at) + " " + b(x, at + 1) + " " + b2(x, at + 2) + " " + b4(x, at + 4) + " " + b4(x, at + 8) + " " + b4(x, at + 12);
    }

    private static void formatted() {
        DiskEvidence x = Kit.disk(20, 99);
        x.tick(70);
        KIT.due("argument 0", x.format(0, 2, 0), -2);
        KIT.due("argument 33", x.format(0, 2, 33), -2);
        KIT.due("too many nodes", x.format(0, 2, 16), -5);
        KIT.due("nothing is done", b(x, 0), 99);
        KIT.due("two data blocks", x.format(0, 2, 15), 0);
        KIT.due("format", x.format(0, 2, 4), 0);
        KIT.due("its head", text(x, 0, 6), "NF\10\0\24\0");
        KIT.due("its last bytes", text(x, 61, 3), "\0\63\167");
        KIT.due("nodes that are taken", b4(x, 64), 3);
        KIT.due("blocks that are taken", b4(x, 128), 255);
        KIT.due("node 1", node(x, 1), "2 1 64 70 70 0");
        KIT.due("its places", places(x, 1), "7 0 0 0 0 0 0 0 ");
        KIT.due("all else is 0", x.crc(0, 224, 1280 - 224), Kit.crc(new byte[1280 - 224]));
    }

    /** Thirty blocks, eight nodes: data from block 7 on; block 7 is the root's. */
    private static DiskEvidence disk() {
        DiskEvidence x = Kit.disk(30);
        x.format(0, 2, 4);
        x.tick(1001);
        return x;
    }

    private static void savedAnew() {
        DiskEvidence x = disk();
        KIT.due("save", Kit.save(x, 0, "file", Kit.many('x', 70)), 2);
        KIT.due("its row", text(x, 448, 16), "\2\0file" + Kit.many('\0', 10));
        KIT.due("its node", node(x, 2), "1 1 70 1001 1001 0");
        KIT.due("its places", places(x, 2), "8 9 0 0 0 0 0 0 ");
        KIT.due("the maps", b4(x, 64) + " " + b4(x, 128), "7 1023");
        KIT.due("contents", text(x, 512, 72), Kit.many('x', 70) + "\0\0");
        KIT.due("a file without bytes", Kit.save(x, 0, "14 letters \u00ff\1\2", ""), 0);
        KIT.due("its row, too", text(x, 464, 16), "\3\0" + "14 letters \u00ff\1\2");
        KIT.due("its node, too", node(x, 3), "1 1 0 1001 1001 0");
        KIT.due("the root's moments stay", node(x, 1), "2 1 64 0 0 0");
    }

    private static void savedAgain() {
        DiskEvidence x = disk();
        Kit.save(x, 0, "a", Kit.many('a', 130));
        Kit.save(x, 0, "b", Kit.many('b', 64));
        x.tick(10);
        x.poke(0, nodeAt(2) + 12, 5);
        KIT.due("one block now", Kit.save(x, 0, "a", "new"), 1);
        KIT.due("its node", node(x, 2), "1 1 3 1001 1011 0");
        KIT.due("its places", places(x, 2), "8 0 0 0 0 0 0 0 ");
        KIT.due("the map", b4(x, 128), 255 + 256 + 2048);
        KIT.due("0s behind the end", text(x, 512, 5), "new\0\0");
        KIT.due("what it lost stays", b(x, 576), 'a');
        KIT.due("round b", Kit.save(x, 0, "a", Kit.many('c', 256)), 4);
        KIT.due("its places, too", places(x, 2), "8 9 10 12 0 0 0 0 ");
    }

    private static void furtherBlocks() {
        DiskEvidence x = disk();
        KIT.due("nine blocks", Kit.save(x, 0, "a", Kit.many('a', 64 * 9)), 9);
        KIT.due("places and the block of further ones", places(x, 2), "8 9 10 11 12 13 14 15 ");
        KIT.due("what it has", b4(x, 15 * 64) + " " + b4(x, 15 * 64 + 4), (16 + 65536 * 17) + " 0");
        KIT.due("one block", Kit.save(x, 0, "a", "a"), 1);
        KIT.due("all others are free", b4(x, 128), 511);
        DiskEvidence y = Kit.disk(60);
        y.format(0, 2, 4);
        KIT.due("39 blocks", Kit.save(y, 0, "a", Kit.many('a', 39 * 64)), 39);
        DiskEvidence z = Kit.disk(60);
        z.format(0, 2, 4);
        Kit.save(z, 0, "a", "a");
        KIT.due("40 blocks", Kit.save(z, 0, "a", Kit.many('a', 39 * 64 + 1)), -3);
        KIT.due("none came", b4(z, 64), 7);
    }

    private static void folders() {
        DiskEvidence x = disk();
        KIT.due("folder", Kit.folder(x, 0, "d"), 0);
        KIT.due("its node", node(x, 2), "2 1 64 1001 1001 0");
        KIT.due("its block", places(x, 2), "8 0 0 0 0 0 0 0 ");
        KIT.due("folder again", Kit.folder(x, 0, "d"), -4);
        KIT.due("a file there", Kit.save(x, 0, "d", ""), -4);
        x.tick(1);
        KIT.due("a file in it", Kit.save(x, 0, "d/f", "x"), 1);
        KIT.due("its row", text(x, 512, 4), "\3\0f\0");
        KIT.due("folders' moments stay", node(x, 2), "2 1 64 1001 1001 0");
        KIT.due("a folder where a file is", Kit.folder(x, 0, "d/f"), -4);
        KIT.due("a file in a file", Kit.save(x, 0, "d/f/g", ""), -4);
        KIT.due("a byte 0 in the path", Kit.folder(x, 0, "q\0"), -4);
    }

    private static void growing() {
        DiskEvidence x = Kit.disk(30);
        x.format(0, 2, 16);
        for (int i = 0; i < 4; i++) Kit.save(x, 0, "f" + i, "");
        KIT.due("the fifth row", Kit.save(x, 0, "f4", "c"), 1);
        KIT.due("the root's node", node(x, 1), "2 1 128 0 0 0");
        KIT.due("the root's places", places(x, 1), "19 20 0 0 0 0 0 0 ");
        KIT.due("its row", text(x, 20 * 64, 4), "\6\0f4");
        KIT.due("its contents", b(x, 21 * 64), 'c');
        for (int i = 5; i < 28; i++) KIT.due("file " + i, Kit.save(x, 0, "f" + i, ""), 0);
        KIT.due("seven places", places(x, 1), "19 20 22 23 24 25 26 0 ");
        KIT.due("an eighth", Kit.save(x, 0, "f28", ""), 0);
        KIT.due("its block of further ones", places(x, 1), "19 20 22 23 24 25 26 27 ");
        KIT.due("what it has", b4(x, 27 * 64), 28);
        KIT.due("the row", text(x, 28 * 64 + 2, 3), "f28");
        KIT.due("the size", b2(x, nodeAt(1) + 2), 512);
        DiskEvidence y = disk();
        Kit.poke2(y, 0, nodeAt(1) + 2, 40);
        Kit.save(y, 0, "a", "");
        Kit.save(y, 0, "b", "");
        KIT.due("behind two whole rows", Kit.save(y, 0, "c", ""), 0);
        KIT.due("64 times its places", b2(y, nodeAt(1) + 2), 128);
        KIT.due("the row is in the new block", text(y, 8 * 64 + 2, 1), "c");
    }

    private static void erasing() {
        DiskEvidence x = disk();
        Kit.save(x, 0, "a", Kit.many('a', 64 * 8));
        Kit.folder(x, 0, "d");
        Kit.save(x, 0, "d/b", "b");
        x.tick(9);
        KIT.due("nothing is there", Kit.erase(x, 0, "c"), -4);
        KIT.due("a folder with a row", Kit.erase(x, 0, "d"), -4);
        KIT.due("erase", Kit.erase(x, 0, "a"), 0);
        KIT.due("its node", node(x, 2), "0 0 512 1001 1001 1010");
        KIT.due("its places stay", places(x, 2), "8 9 10 11 12 13 14 15 ");
        KIT.due("the maps", b4(x, 64) + " " + b4(x, 128), (1 + 2 + 8 + 16) + " " + (255 + (3 << 17)));
        KIT.due("its row", text(x, 448, 4), "\0\0a\0");
        KIT.due("its row is taken", Kit.save(x, 0, "n", ""), 0);
        KIT.due("there, with its node", text(x, 448, 4), "\2\0n\0");
        KIT.due("all bytes of the node were 0", places(x, 2) + node(x, 2), "0 0 0 0 0 0 0 0 1 1 0 1010 1010 0");
        KIT.due("a file", Kit.erase(x, 0, "d/b"), 0);
        x.poke(0, 17 * 64 + 16, 200);
        KIT.due("a row that names a node, whatever it is", Kit.erase(x, 0, "d"), -4);
        x.poke(0, 17 * 64 + 16, 0);
        KIT.due("an empty folder", Kit.erase(x, 0, "d"), 0);
    }

    private static void paths() {
        DiskEvidence x = disk();
        String[] wrong = {"", "/", "a/", "/a", "a//b", "123456789012345", Kit.many('a', 41)};
        for (String path : wrong) {
            KIT.due("save " + path, Kit.save(x, 0, path, "x"), -4);
            KIT.due("folder " + path, Kit.folder(x, 0, path), -4);
            KIT.due("erase " + path, Kit.erase(x, 0, path), -4);
        }
        KIT.due("14 letters", Kit.folder(x, 0, "12345678901234"), 0);
        KIT.due("29 bytes", Kit.folder(x, 0, "12345678901234/12345678901234"), 0);
        KIT.due("40 bytes", Kit.save(x, 0, "12345678901234/12345678901234/1234567890", ""), 0);
        KIT.due("41 bytes", Kit.save(x, 0, "12345678901234/12345678901234/12345678901", ""), -4);
        KIT.due("no folder", Kit.save(x, 0, "z/z", ""), -4);
        KIT.due("seven names", Kit.save(x, 0, "a/b/c/d/e/f/g", ""), -4);
    }

    private static void full() {
        DiskEvidence x = Kit.disk(9);
        x.format(0, 2, 2);
        KIT.due("three blocks are free", Kit.save(x, 0, "a", Kit.many('a', 193)), -3);
        KIT.due("three", Kit.save(x, 0, "a", Kit.many('a', 192)), 3);
        KIT.due("a folder needs one", Kit.folder(x, 0, "d"), -3);
        KIT.due("two files", Kit.save(x, 0, "b", "") + Kit.save(x, 0, "c", ""), 0);
        KIT.due("no node", Kit.save(x, 0, "d", ""), -3);
        KIT.due("its own blocks are free first", Kit.save(x, 0, "a", Kit.many('b', 192)), 3);
        DiskEvidence y = Kit.disk(8);
        y.format(0, 2, 3);
        for (int i = 0; i < 4; i++) Kit.save(y, 0, "f" + i, "");
        KIT.due("the folder and the file need a block each", Kit.save(y, 0, "x", "x"), -3);
        KIT.due("the root is as it was", b2(y, nodeAt(1) + 2), 64);
        KIT.due("the folder alone", Kit.save(y, 0, "x", ""), 0);
    }

    private static void damaged() {
        DiskEvidence x = disk();
        Kit.save(x, 0, "a", "1");
        Kit.save(x, 0, "b", "2");
        x.poke(0, 448 + 2, 'b');
        x.poke(0, nodeAt(2), 3);
        KIT.due("of rows whose node is one", Kit.save(x, 0, "b", "3"), 1);
        KIT.due("the second", b(x, 9 * 64), '3');
        x.poke(0, 64, 1);
        KIT.due("node 1 is taken if its bit is 0", Kit.save(x, 0, "z", ""), 0);
        KIT.due("it is that file's", node(x, 1), "1 1 0 1001 1001 0");
        KIT.due("no root is no form", Kit.save(x, 0, "y", ""), -5);
        DiskEvidence y = disk();
        Kit.poke2(y, 0, nodeAt(1) + 16, 2);
        KIT.due("a root whose place has no block", Kit.save(y, 0, "a", ""), 0);
        KIT.due("gets another place", places(y, 1), "2 8 0 0 0 0 0 0 ");
    }

    private static void tapes() {
        DiskEvidence x = Kit.disk(8);
        KIT.due("argument 1", x.format(0, 3, 1), -2);
        KIT.due("format", x.format(0, 3, 0), 0);
        x.tick(8 * 64 + 3);
        KIT.due("save", Kit.save(x, 0, "dir/file", Kit.many('x', 65)), 2);
        KIT.due("path, kind, size", text(x, 0, 32), "dir/file" + Kit.many('\0', 16) + "0" + "0000101");
        KIT.due("altered", text(x, 32, 12), "000000001003");
        KIT.due("behind the sum", text(x, 51, 13), "tape1" + Kit.many('\0', 8));
        int sum = 0;
        for (int i = 0; i < 64; i++) sum += i >= 44 && i < 51 ? 32 : b(x, i);
        KIT.due("the sum", Integer.parseInt(text(x, 44, 7), 8), sum);
        KIT.due("contents", text(x, 128, 3), "x\0\0");
        KIT.due("a folder", Kit.folder(x, 0, "dir"), 0);
        KIT.due("its kind and size", text(x, 192 + 24, 8), "50000000");
        KIT.due("a folder again", Kit.folder(x, 0, "dir"), 0);
        KIT.due("a file of a folder's path", Kit.save(x, 0, "dir", ""), 0);
        KIT.due("erase", Kit.erase(x, 0, "dir"), -5);
        KIT.due("two blocks are left", Kit.save(x, 0, "y", Kit.many('y', 65)), -3);
        KIT.due("just enough", Kit.save(x, 0, "y", Kit.many('y', 64)), 1);
        KIT.due("at the end", Kit.save(x, 0, "z", ""), -3);
        KIT.due("a folder at the end", Kit.folder(x, 0, "z"), -3);
    }

    private static void tapeLimits() {
        DiskEvidence x = Kit.disk(12);
        x.format(0, 3, 0);
        KIT.due("24 bytes", Kit.save(x, 0, "123456789/12345678901234", ""), 0);
        KIT.due("25 bytes", Kit.save(x, 0, "1234567890/12345678901234", ""), -4);
        KIT.due("a name of 15", Kit.save(x, 0, "123456789012345", ""), -4);
        KIT.due("seven names", Kit.folder(x, 0, "a/b/c/d/e/f/g"), -4);
        KIT.due("six names", Kit.folder(x, 0, "a/b/c/d/e/f"), 0);
        KIT.due("no name", Kit.save(x, 0, "", "x"), -4);
        KIT.due("a byte 0 in the path", Kit.folder(x, 0, "a\0"), -4);
        x.poke(0, 128, 1);
        KIT.due("a walk with a fault", Kit.save(x, 0, "", ""), -5);
        x.poke(0, 128, 0);
        x.poke(0, 64 + 51, 0);
        KIT.due("a header that is none", Kit.folder(x, 0, "b"), -5);
        x.poke(0, 51, 0);
        KIT.due("no form", Kit.folder(x, 0, "b"), -5);
    }

    private static void onlyWhatChanged() {
        DiskEvidence x = new DiskEvidence();
        x.blank(12);
        x.volume(0, 0, 12);
        x.volume(0, 6, 6);
        x.join(1, 0, 1, -1);
        x.format(2, 3, 0);
        Kit.save(x, 2, "a", Kit.many('a', 64 * 6));
        Kit.save(x, 2, "b", Kit.many('b', 64));
        KIT.due("a sector that is two blocks", x.byteAt(0, 64 * 8), 'b');
        KIT.due("and is so read in both", x.volumeByte(2, 64 * 14), 'b');
        DiskEvidence y = Kit.disk(8);
        y.format(0, 3, 0);
        y.spoil(0, 1, true);
        KIT.due("what is written to a spoilt sector", Kit.save(y, 0, "a", "abc"), 1);
        y.spoil(0, 1, false);
        KIT.due("is lost", y.volumeByte(0, 64), 0);
    }
}
