/** Boundary cases of NODES in "3 FORMS" and of promises 19 to 22, each by the sentence that names it. */
public final class EdgesNodesTest {
    private static final Kit KIT = new Kit("EdgesNodes");
    private static final int MAX = Integer.MAX_VALUE, MIN = Integer.MIN_VALUE;

    public static void main(String[] args) {
        formatArguments();
        formatTooFewBlocks();
        formatBytes();
        saveSizes();
        saveOf39Blocks();
        furtherOnesComeFirst();
        momentsAtTheirGreatest();
        momentsOf0();
        names();
        paths();
        answersInTheirOrder();
        emptiedAndKept();
        nodesThatAreFree();
        node1IfItsBitIs0();
        nodesAre0AtFirst();
        blocksThatAreFree();
        fullNodes();
        fullBlocks();
        fullWithTheFolder();
        filesThatAreThere();
        filesLoseTheirBlocks();
        rowsThatAreTaken();
        rowsOfPlacesWithBlocks();
        rowsOfWholeSize();
        foldersOf0s();
        foldersGrow();
        foldersGrowBehindSevenPlaces();
        foldersGrowIntoTheirFurtherOnes();
        foldersOf39Places();
        rowsWhoseNodeIsOne();
        placesLeftOut();
        eraseFiles();
        eraseFolders();
        eraseWhatIsNotThere();
        KIT.finish();
    }

    private static long all(Desk x) {
        return x.crc(0, 0, 64 * x.sectors(0));
    }

    private static int nodeAt(int node) {
        return Image.nodeAt(node);
    }

    /** KIND, byte 1, size, MADE, ALTERED, ERASED. */
    private static String node(Desk x, int node) {
        int at = nodeAt(node);
        return x.number(at, 1) + " " + x.number(at + 1, 1) + " " + x.number(at + 2, 2) + " " + x.number(at + 4, 4) + " " + x.number(at + 8, 4) + " " + x.number(at + 12, 4);
    }

    private static String places(Desk x, int node) {
        StringBuilder s = new StringBuilder();
        for (int k = 0; k < 8; k++) s.append(x.number(nodeAt(node) + 16 + 2 * k, 2)).append(' ');
        return s.toString();
    }

    private static String maps(Desk x) {
        return Long.toHexString(x.number(64, 8)) + " " + Long.toHexString(x.number(128, 8));
    }

    /** Thirty BLOCKS, eight nodes: DATA BLOCKS from 7 on, 7 is the root's. */
    private static Desk disk() {
        return Desk.formatted(30, 2, 4);
    }

    // ---- format

    private static void formatArguments() {
        KIT.says("2 NODES: m is twice the argument (2 .. 64)");
        Desk x = Desk.blanks(60);
        int[] wrong = {0, -1, 33, 64, MAX, MIN};
        for (int a : wrong) KIT.due("argument " + a, x.format(0, 2, a), -2);
        KIT.due("nothing is done", x.volumeByte(0, 0), 0);
        KIT.due("1", x.format(0, 2, 1), 0);
        KIT.due("m of 1", x.volumeByte(0, 2), 2);
        KIT.due("32", x.format(0, 2, 32), 0);
        KIT.due("m of 32", x.volumeByte(0, 2), 64);
        KIT.due("its first DATA BLOCK", x.number(nodeAt(1) + 16, 2), 35);
        KIT.due("it is GOOD", x.mount(0), 0);
    }

    private static void formatTooFewBlocks() {
        KIT.says("too few BLOCKS for a GOOD form with one CLUSTER, or two DATA BLOCKS (NODES: node 1 has the first one)");
        int[][] least = {{1, 6}, {4, 9}, {32, 37}};
        for (int[] l : least) {
            Desk x = Desk.blanks(l[1] - 1);
            x.poke(0, 0, 9);
            KIT.due("argument " + l[0] + " of " + (l[1] - 1), x.format(0, 2, l[0]), -5);
            KIT.due("nothing is done", x.volumeByte(0, 0), 9);
            Desk y = Desk.blanks(l[1]);
            KIT.due("argument " + l[0] + " of " + l[1], y.format(0, 2, l[0]), 0);
            KIT.due("one more DATA BLOCK", y.saved(0, "a", "a"), 1);
            KIT.due("no other", y.saved(0, "a", Kit.many('a', 65)), -3);
        }
    }

    private static void formatBytes() {
        KIT.says("MADE and ALTERED of node 1 are NOW.");
        Desk x = Desk.of(new Image(20).fill(0, 20 * 64, 255));
        x.tick(1000000000);
        x.tick(1000000000);
        KIT.due("format", x.format(0, 2, 3), 0);
        KIT.due("all bytes", all(x), Kit.crc(Image.nodes(20, 6).moments(1, 2000000000, 2000000000, 0).a));
    }

    // ---- save

    private static void saveSizes() {
        KIT.says("A node has as many places as its size needs (39 at most).");
        int[] sizes = {0, 1, 64, 65, 128};
        for (int size : sizes) {
            Desk x = Desk.of(Image.nodes(30, 8).fill(8 * 64, 22 * 64, 9));
            int need = (size + 63) / 64;
            KIT.due("save of " + size, x.saved(0, "a", Kit.many('x', size)), need);
            KIT.due("its size of " + size, x.number(nodeAt(2) + 2, 2), size);
            KIT.due("its places of " + size, places(x, 2), (need > 0 ? "8 " : "0 ") + (need > 1 ? "9 " : "0 ") + "0 0 0 0 0 0 ");
            KIT.says("0s come behind the end");
            if (need > 0) KIT.due("the last byte of its BLOCKS of " + size, x.volumeByte(0, 64 * (8 + need) - 1), size % 64 == 0 ? 'x' : 0);
            KIT.due("behind its BLOCKS of " + size, x.volumeByte(0, 64 * (8 + need)), 9);
            KIT.due("the maps of " + size, maps(x), "7 " + Long.toHexString((1L << 8 + need) - 1));
        }
    }

    private static void saveOf39Blocks() {
        KIT.says("or the file would have more than 39 BLOCKS (NODES)");
        Desk more = Desk.formatted(60, 2, 1);
        KIT.due("40 BLOCKS", more.saved(0, "a", Kit.many('a', 39 * 64 + 1)), -3);
        KIT.due("no node came", more.number(64, 1), 3);
        Desk x = Desk.formatted(60, 2, 1);
        KIT.due("39 BLOCKS", x.put("a\0" + Kit.many('a', 39 * 64 - 1) + "z").save(0), 39);
        KIT.due("places", places(x, 2), "5 6 7 8 9 10 11 12 ");
        KIT.due("the first and the last of the further ones", x.number(12 * 64, 2) + " " + x.number(12 * 64 + 62, 2), "13 44");
        KIT.due("the last byte", x.volumeByte(0, 44 * 64 + 63), 'z');
    }

    private static void furtherOnesComeFirst() {
        KIT.says("NODES: the BLOCK of further ones comes before those it has");
        Desk x = Desk.of(Image.nodes(30, 8).fill(8 * 64, 22 * 64, 9).takes(9, 15));
        KIT.due("seven BLOCKS", x.saved(0, "a", Kit.many('a', 7 * 64)), 7);
        KIT.due("their places", places(x, 2), "8 10 11 12 13 14 16 0 ");
        KIT.due("eight BLOCKS", x.saved(0, "a", Kit.many('a', 7 * 64 + 1)), 8);
        KIT.due("their places", places(x, 2), "8 10 11 12 13 14 16 17 ");
        KIT.due("the eighth", x.number(17 * 64, 2), 18);
        KIT.says("30, 31 a BLOCK of 32 further ones (two bytes each; 0 none)");
        KIT.due("the others are 0", x.crc(0, 17 * 64 + 2, 62), Kit.crc(new byte[62]));
        KIT.due("the map", Long.toHexString(x.number(128, 8)), Long.toHexString((1L << 19) - 1));
        KIT.due("seven again", x.saved(0, "a", Kit.many('b', 7 * 64)), 7);
        KIT.due("the map, too", Long.toHexString(x.number(128, 8)), Long.toHexString((1L << 17) - 1));
    }

    private static void momentsAtTheirGreatest() {
        KIT.says("MADE is NOW when it is new, ALTERED is NOW each time (NODES: byte 1 is 1, ERASED 0 then; folders' own moments do not change).");
        Desk x = disk();
        x.tick(1000000000);
        x.tick(990000000);
        x.saved(0, "a", "");
        x.foldered(0, "d");
        x.tick(10000000);
        KIT.due("save again", x.saved(0, "a", "1"), 1);
        KIT.due("a", node(x, 2), "1 1 1 1990000000 2000000000 0");
        KIT.due("in the folder", x.saved(0, "d/b", ""), 0);
        KIT.due("d", node(x, 3), "2 1 64 1990000000 1990000000 0");
        KIT.due("the root", node(x, 1), "2 1 64 0 0 0");
        KIT.due("erase", x.erased(0, "a"), 0);
        KIT.due("ERASED", node(x, 2), "0 0 1 1990000000 2000000000 2000000000");
    }

    private static void momentsOf0() {
        KIT.says("NOW is a moment in seconds, 0 at first.");
        Desk x = disk();
        x.saved(0, "a", "a");
        KIT.due("a", node(x, 2), "1 1 1 0 0 0");
        KIT.due("erase at 0", x.erased(0, "a"), 0);
        KIT.due("its node", node(x, 2), "0 0 1 0 0 0");
        x.mount(0);
        KIT.says("nodes of KIND 0 with ERASED above 0");
        KIT.due("erased at 0 it is not LOST", x.tree(0, 2), 0);
    }

    // ---- NAMES and paths

    private static void names() {
        KIT.says("NAMES: 1 .. 14 bytes, none of them 0, /.");
        String[] good = {"a", "\1", "\u00ff", " ", ".", "..", "A.b", "12345678901234", "            a ", "'\"\\*?"};
        for (String name : good) {
            Desk x = disk();
            KIT.due("save " + name, x.saved(0, name, "c"), 1);
            KIT.due("its ROW", x.bytes(7 * 64, 16), "\2\0" + name + Kit.many('\0', 14 - name.length()));
            KIT.due("folder " + name, x.foldered(0, name), -4);
            KIT.due("erase " + name, x.erased(0, name), 0);
            KIT.due("folder where it was", x.foldered(0, name), 0);
        }
        String[] wrong = {"", "123456789012345", "/", "a/", "/a", "a//b"};
        for (String name : wrong) {
            Desk x = disk();
            KIT.due("save " + name, x.saved(0, name, "c"), -4);
            KIT.due("folder " + name, x.foldered(0, name), -4);
            KIT.due("erase " + name, x.erased(0, name), -4);
        }
        Desk old = disk();
        old.put("zzzzzzzzzzzzzzzzzzzz");
        old.forget();
        KIT.due("a folder, where longer ones were collected", old.foldered(0, "d"), 0);
        KIT.due("a file, too", old.put("e").save(0), 0);
        KIT.due("their ROWS", old.bytes(7 * 64, 34), "\2\0d" + Kit.many('\0', 13) + "\3\0e" + Kit.many('\0', 15));
        KIT.due("erase, too", old.erased(0, "e"), 0);
        Desk x = disk();
        KIT.due("a byte 0 in a folder's path", x.foldered(0, "d\0"), -4);
        x.foldered(0, "d");
        KIT.due("a byte 0 in what is erased", x.erased(0, "d\0"), -4);
        KIT.due("a part of a NAME", x.saved(0, "dd", ""), 0);
        KIT.due("is another", x.tree(x.mount(0), 1), 2);
    }

    private static void paths() {
        KIT.says("a path has up to 40 bytes and 6 NAMES (but what find() is told)");
        Desk x = Desk.formatted(40, 2, 8);
        String path = "ffffff";
        for (int i = 0; i < 5; i++) {
            KIT.due("folder of " + (i + 1) + " NAMES", x.foldered(0, path), 0);
            if (i < 4) path += "/ffffff";
        }
        KIT.due("six NAMES, 40 bytes", x.saved(0, path + "/abcde", ""), 0);
        KIT.due("six NAMES, 41 bytes", x.saved(0, path + "/abcdef", ""), -4);
        KIT.due("a folder of 40 bytes", x.foldered(0, path + "/abcdf"), 0);
        KIT.due("a folder of 41 bytes", x.foldered(0, path + "/abcdef"), -4);
        KIT.due("seven NAMES", x.saved(0, "a/b/c/d/e/f/g", ""), -4);
        KIT.due("a folder of six NAMES", x.foldered(0, path + "/d"), 0);
        KIT.due("erase of 41 bytes", x.erased(0, path + "/abcdef"), -4);
        KIT.due("erase of 40 bytes", x.erased(0, path + "/abcde"), 0);
    }

    private static void answersInTheirOrder() {
        KIT.says("the first of FORM: it is not GOOD, or a TAPE whose walk has a FAULT; PATH: it is none, or its folder is not there, or a folder is (TAPE: the first alone); FULL.");
        Desk x = Desk.formatted(7, 2, 1);
        x.saved(0, "a", "a");
        String many = Kit.many('x', 200);
        KIT.due("no path, too many bytes", x.saved(0, "a/", many), -4);
        KIT.due("no folder, too many bytes", x.saved(0, "d/a", many), -4);
        KIT.due("a file as a folder, too many bytes", x.saved(0, "a/a", many), -4);
        KIT.due("a folder where a file is, no node", x.foldered(0, "a"), -4);
        KIT.due("FULL", x.saved(0, "a", many), -3);
        KIT.due("no node", x.saved(0, "b", ""), -3);
        KIT.due("no node for a folder", x.foldered(0, "b"), -3);
        x.poke(0, 63, 0);
        KIT.due("FORM, no path", x.saved(0, "", many), -5);
        KIT.due("FORM, a folder", x.foldered(0, ""), -5);
        KIT.due("FORM, erase", x.erased(0, ""), -5);
    }

    private static void emptiedAndKept() {
        KIT.says("BAD; else COLLECTED are empty then");
        Desk x = Desk.formatted(7, 2, 1);
        x.put("ab");
        KIT.due("save(1)", x.save(1), -2);
        KIT.due("folder(-1)", x.folder(-1), -2);
        KIT.due("erase(1)", x.erase(1), -2);
        KIT.due("COLLECTED stay", x.count(0), 2);
        KIT.due("save", x.save(0), 0);
        KIT.due("COLLECTED", x.count(0), 0);
        KIT.due("FULL", x.saved(0, "b", ""), -3);
        KIT.due("COLLECTED behind FULL", x.count(0), 0);
        KIT.due("PATH", x.erased(0, "b"), -4);
        KIT.due("COLLECTED behind PATH", x.count(0), 0);
    }

    // ---- what is free

    private static void nodesThatAreFree() {
        KIT.says("a new node is the least that is free by its bit");
        Image m = Image.nodes(30, 8).node(2, 0, 0).node(4, 0, 0).b(nodeAt(3), 2);
        Desk x = Desk.of(m);
        KIT.due("the first", x.saved(0, "a", ""), 0);
        KIT.due("it is 3", x.number(7 * 64, 2), 3);
        KIT.due("the second", x.saved(0, "b", ""), 0);
        KIT.due("it is 5", x.number(7 * 64 + 16, 2), 5);
        KIT.due("the map", x.number(64, 2), 0x3F);
    }

    private static void node1IfItsBitIs0() {
        KIT.says("a new node is the least that is free by its bit (node 1, too, if its bit is 0), all its bytes 0 at first");
        Desk x = Desk.of(Image.nodes(30, 8).b(64, 1));
        x.tick(5);
        KIT.due("save", x.saved(0, "a", "q"), 1);
        KIT.due("node 1", node(x, 1) + " " + places(x, 1), "1 1 1 5 5 0 8 0 0 0 0 0 0 0 ");
        KIT.due("the ROW", x.bytes(7 * 64, 4), "\1\0a\0");
        KIT.due("there is no form now", x.mount(0), -5);
        Desk y = Desk.of(Image.nodes(30, 8).b(64, 0));
        KIT.due("bit 0 is no node's", y.foldered(0, "d"), 0);
        KIT.due("it stays 0", y.number(64, 2), 2);
        KIT.due("node 1, a folder", node(y, 1) + " " + places(y, 1), "2 1 64 0 0 0 8 0 0 0 0 0 0 0 ");
        KIT.due("is GOOD", y.mount(0), 0);
    }

    private static void nodesAre0AtFirst() {
        KIT.says("all its bytes 0 at first");
        Desk x = Desk.of(Image.nodes(30, 8).fill(nodeAt(2), 64, 255));
        KIT.due("save", x.saved(0, "a", "q"), 1);
        KIT.due("its node", node(x, 2) + " " + places(x, 2), "1 1 1 0 0 0 8 0 0 0 0 0 0 0 ");
        KIT.due("the next", x.volumeByte(0, nodeAt(3)), 255);
    }

    private static void blocksThatAreFree() {
        KIT.says("New CLUSTERS, BLOCKS (DATA BLOCKS alone) are the least that are free (by the first TABLE, by the map), in order");
        Image m = Image.nodes(30, 8).b2(4, 12).fill(128, 8, 0).takes(8, 10);
        Desk x = Desk.of(m);
        KIT.due("four of three", x.saved(0, "a", Kit.many('a', 4 * 64)), -3);
        KIT.due("three", x.saved(0, "a", Kit.many('a', 3 * 64)), 3);
        KIT.due("7 (though it is the root's), 9, 11, none below 7, none from n on", places(x, 2), "7 9 11 0 0 0 0 0 ");
        KIT.says("The ROW is written last, where it was found or made");
        KIT.due("over the contents", x.bytes(7 * 64, 18), "\2\0a" + Kit.many('\0', 13) + "aa");
        KIT.due("bits below the DATA BLOCKS stay", x.number(128, 1), 128);
    }

    // ---- FULL

    private static void fullNodes() {
        KIT.says("FULL, and nothing is done: there are too few CLUSTERS, BLOCKS, ROWS, nodes");
        Desk x = Desk.formatted(20, 2, 2);
        for (int i = 2; i <= 4; i++) KIT.due("node " + i, x.saved(0, "f" + i, ""), 0);
        long before = all(x);
        KIT.due("no node 5", x.saved(0, "g", ""), -3);
        KIT.due("no node for a folder", x.foldered(0, "g"), -3);
        KIT.due("nothing is done", all(x), before);
        KIT.due("the bit of node 5", x.number(64, 8), 31);
        KIT.due("of a file that is there", x.saved(0, "f4", "4"), 1);
        KIT.due("erase", x.erased(0, "f2"), 0);
        KIT.due("node 2 again", x.foldered(0, "g"), 0);
        KIT.due("its ROW names it", x.number(7 * 64 - 128, 2), 2);
        Desk y = Desk.formatted(60, 2, 32);
        for (int i = 2; i < 64; i++) y.poke(0, 64 + i / 8, 255);
        KIT.due("node 64", y.saved(0, "a", ""), 0);
        KIT.due("its ROW", y.number(35 * 64, 2), 64);
        KIT.due("its node", node(y, 64), "1 1 0 0 0 0");
        KIT.due("none behind it", y.saved(0, "b", ""), -3);
    }

    private static void fullBlocks() {
        KIT.says("FULL, and nothing is done: there are too few CLUSTERS, BLOCKS");
        for (int left = 7; left < 10; left++) {
            Desk x = Desk.formatted(5 + left, 2, 1);
            long before = all(x);
            KIT.due("eight BLOCKS and that of further ones of " + left, x.saved(0, "a", Kit.many('a', 8 * 64)), left < 9 ? -3 : 8);
            if (left < 9) KIT.due("nothing is done", all(x), before);
            KIT.due("seven BLOCKS of " + left, x.saved(0, "a", Kit.many('a', 7 * 64)), 7);
        }
        Desk y = Desk.formatted(6, 2, 1);
        KIT.due("a folder", y.foldered(0, "d"), 0);
        Desk z = Desk.formatted(7, 2, 2);
        z.saved(0, "a", "a");
        KIT.due("a folder without a BLOCK", z.foldered(0, "d"), -3);
        KIT.due("a file without bytes", z.saved(0, "d", ""), 0);
    }

    private static void fullWithTheFolder() {
        KIT.says("without one the folder gets a BLOCK of 0s more, before the file's");
        for (int left = 0; left < 3; left++) {
            Image m = Image.nodes(10 + left, 10);
            for (int i = 0; i < 4; i++) m.named(8, i, 2, "f" + i);
            m.node(2, 1, 64, 9).takes(9);
            Desk x = Desk.of(m);
            long before = Kit.crc(m.a);
            KIT.due("of one BLOCK, " + left + " left", x.saved(0, "g", "g"), left < 2 ? -3 : 1);
            if (left < 2) KIT.due("nothing is done, " + left, all(x), before);
            KIT.due("without bytes, " + left, x.saved(0, "h", ""), left == 0 ? -3 : 0);
        }
    }

    // ---- files that are there

    private static void filesThatAreThere() {
        KIT.says("NODES: that of a file that is there stays as it is");
        Image m = Image.nodes(30, 8).node(2, 1, 65, 9, 12).takes(9, 12).moments(2, 11, 12, 13).b(nodeAt(2) + 1, 0).named(7, 1, 2, "a").fill(8 * 64, 22 * 64, 7);
        Desk x = Desk.of(m);
        x.tick(1 << 29);
        KIT.due("save", x.saved(0, "a", Kit.many('z', 66)), 2);
        KIT.due("its node: MADE stays, byte 1 is 1, ERASED 0", node(x, 2), "1 1 66 11 536870912 0");
        KIT.due("its BLOCKS are the least that are free", places(x, 2), "8 9 0 0 0 0 0 0 ");
        KIT.due("the map", x.number(128, 2), 0x3FF);
        KIT.due("the root's BLOCK", x.bytes(7 * 64, 64), Kit.many('\0', 16) + "\2\0a" + Kit.many('\0', 45));
        KIT.due("what it lost stays", x.volumeByte(0, 12 * 64), 7);
        KIT.due("0s behind the end", x.bytes(9 * 64, 4), "zz\0\0");
    }

    private static void filesLoseTheirBlocks() {
        KIT.says("a file that is there loses its CLUSTERS, BLOCKS first (CELLS of all TABLES become 0, bits too)");
        Image m = Image.nodes(30, 8).named(7, 0, 2, "a").node(2, 1, 8 * 64, 8, 9, 10, 11, 12, 13, 14).further(2, 15).takes(8, 9, 10, 11, 12, 13, 14, 15, 16).b2(15 * 64, 16).b2(15 * 64 + 2, 17).takes(17);
        Desk x = Desk.of(m);
        KIT.due("save of none", x.saved(0, "a", ""), 0);
        KIT.due("its places, that of further ones, not what is beyond its size", Long.toHexString(x.number(128, 8)), Long.toHexString(255 + (1 << 17)));
        m.b2(nodeAt(2) + 2, 7 * 64);
        Desk y = Desk.of(m);
        KIT.due("of seven places", y.saved(0, "a", ""), 0);
        KIT.due("not that of further ones", Long.toHexString(y.number(128, 8)), Long.toHexString(255 + (7 << 15)));
        m.b2(nodeAt(2) + 2, 0);
        Desk z = Desk.of(m);
        KIT.due("of none", z.saved(0, "a", "a"), 1);
        KIT.due("none is lost", places(z, 2), "18 0 0 0 0 0 0 0 ");
    }

    // ---- ROWS

    private static void rowsThatAreTaken() {
        KIT.says("NODES: none, in a place that has a BLOCK");
        Desk x = Desk.of(Image.nodes(30, 8).named(7, 0, 9, "x").named(7, 1, 5, "y").named(7, 2, 0, "fourteen bytes").fill(nodeAt(5), 32, 0));
        KIT.due("save", x.saved(0, "n", ""), 0);
        KIT.says("a NAME (0s behind)");
        KIT.due("of four the third, with 0s behind", x.bytes(7 * 64 + 32, 16), "\2\0n" + Kit.many('\0', 13));
        KIT.due("rows that name no node stay", x.number(7 * 64, 2) + " " + x.number(7 * 64 + 16, 2), "9 5");
        KIT.due("the fourth", x.saved(0, "o", ""), 0);
        KIT.due("there", x.number(7 * 64 + 48, 2), 3);
        KIT.due("the folder has 64 bytes", x.number(nodeAt(1) + 2, 2), 64);
    }

    private static void rowsOfPlacesWithBlocks() {
        KIT.says("NODES: none, in a place that has a BLOCK");
        Image m = Image.nodes(30, 8).node(1, 2, 192, 6, 9, 30).takes(9).fill(9 * 64, 64, 1);
        Desk x = Desk.of(m);
        KIT.due("BLOCKS 6 and 30 are none", x.saved(0, "n", ""), 0);
        KIT.says("NODES: in the place behind its last one, its size is 64 times its places then; the ROW is that BLOCK'S first");
        KIT.due("a fourth place", node(x, 1) + " " + places(x, 1), "2 1 256 0 0 0 6 9 30 8 0 0 0 0 ");
        KIT.due("the ROW", x.bytes(8 * 64, 4), "\2\0n\0");
        KIT.due("it is found", x.erased(0, "n"), 0);
        KIT.due("and erased", x.number(8 * 64, 2), 0);
    }

    private static void rowsOfWholeSize() {
        KIT.says("Folders are files of ROWS of 16 bytes (so many as their size has whole)");
        int[] sizes = {0, 15, 16, 31, 32, 47, 63};
        for (int size : sizes) {
            Image m = Image.nodes(30, 8).node(1, 2, size, 7).node(2, 1, 0);
            for (int i = 0; i < size / 16; i++) m.named(7, i, 2, "" + i);
            m.named(7, 3, 2, "3");
            Desk x = Desk.of(m);
            KIT.due("one behind them is not found, " + size, x.erased(0, "3"), -4);
            KIT.due("save, " + size, x.saved(0, "n", ""), 0);
            int count = size == 0 ? 0 : 1;
            KIT.due("64 times its places, " + size, x.number(nodeAt(1) + 2, 2), 64 * count + 64);
            KIT.due("the ROW is in the new BLOCK, " + size, x.number(8 * 64, 2), 3);
            KIT.due("its place, " + size, x.number(nodeAt(1) + 16 + 2 * count, 2), 8);
        }
    }

    private static void foldersOf0s() {
        KIT.says("A FOLDER is made likewise: one BLOCK of 0s (TAPE: none).");
        Desk x = Desk.of(Image.nodes(30, 8).fill(8 * 64, 22 * 64, 5));
        x.tick(3);
        KIT.due("folder", x.foldered(0, "d"), 0);
        KIT.due("its node", node(x, 2) + " " + places(x, 2), "2 1 64 3 3 0 8 0 0 0 0 0 0 0 ");
        KIT.due("its BLOCK", x.crc(0, 8 * 64, 64), Kit.crc(new byte[64]));
        KIT.due("the next", x.volumeByte(0, 9 * 64), 5);
    }

    // ---- folders grow

    private static void foldersGrow() {
        KIT.says("without one the folder gets a BLOCK of 0s more, before the file's");
        Image m = Image.nodes(30, 8).fill(8 * 64, 22 * 64, 5).moments(1, 1, 2, 3);
        for (int i = 0; i < 4; i++) m.named(7, i, 9, "x" + i);
        Desk x = Desk.of(m);
        x.tick(50);
        KIT.due("save", x.saved(0, "n", "c"), 1);
        KIT.due("the folder's node, its moments stay", node(x, 1) + " " + places(x, 1), "2 1 128 1 2 3 7 8 0 0 0 0 0 0 ");
        KIT.due("a BLOCK of 0s with the ROW first", x.bytes(8 * 64, 64), "\2\0n" + Kit.many('\0', 61));
        KIT.due("the file's BLOCK comes behind", places(x, 2), "9 0 0 0 0 0 0 0 ");
        Desk y = disk();
        y.foldered(0, "d");
        for (int i = 0; i < 4; i++) KIT.due("file " + i, y.saved(0, "d/" + i, ""), 0);
        KIT.due("a folder there", y.foldered(0, "d/e"), 0);
        KIT.due("grown", places(y, 2) + y.number(nodeAt(2) + 2, 2), "8 9 0 0 0 0 0 0 128");
        KIT.due("a folder in that", y.saved(0, "d/e/f", ""), 0);
        KIT.due("its ROW", y.bytes(10 * 64, 4), "\10\0f\0");
    }

    private static Image rootOf(int places, int size) {
        Image m = Image.nodes(60, 4).node(1, 2, size).node(2, 1, 0);
        int block = 5;
        for (int k = 0; k < places; k++) {
            if (k == 7) m.further(1, 5 + 7).takes(5 + 7);
            block = k < 7 ? 5 + k : 6 + k;
            m.b2(k < 7 ? nodeAt(1) + 16 + 2 * k : 12 * 64 + 2 * (k - 7), block).takes(block);
            for (int i = 0; i < 4; i++) m.b2(64 * block + 16 * i, 0x0202);
        }
        return m;
    }

    private static void foldersGrowBehindSevenPlaces() {
        KIT.says("NODES: in the place behind its last one, its size is 64 times its places then");
        Desk x = Desk.of(rootOf(6, 384).fill(11 * 64, 10 * 64, 5));
        KIT.due("a seventh place", x.saved(0, "n", "c"), 1);
        KIT.due("places", places(x, 1), "5 6 7 8 9 10 11 0 ");
        KIT.due("the file's", places(x, 3), "12 0 0 0 0 0 0 0 ");
        KIT.says("NODES: the BLOCK of further ones comes before those it has");
        Desk y = Desk.of(rootOf(7, 448).fill(12 * 64, 10 * 64, 5));
        KIT.due("an eighth place", y.saved(0, "n", "c"), 1);
        KIT.due("places", places(y, 1), "5 6 7 8 9 10 11 12 ");
        KIT.due("the BLOCK of further ones", y.bytes(12 * 64, 64), "\15" + Kit.many('\0', 63));
        KIT.due("the ROW", y.bytes(13 * 64, 64), "\3\0n" + Kit.many('\0', 61));
        KIT.due("the file's", places(y, 3), "14 0 0 0 0 0 0 0 ");
        KIT.due("the size", y.number(nodeAt(1) + 2, 2), 512);
        Desk z = Desk.of(rootOf(8, 512).fill(14 * 64, 10 * 64, 5));
        KIT.due("a ninth place", z.saved(0, "n", "c"), 1);
        KIT.due("places", places(z, 1), "5 6 7 8 9 10 11 12 ");
        KIT.due("the BLOCK of further ones, too", z.bytes(12 * 64, 4), "\15\0\16\0");
        KIT.due("the ROW, too", z.bytes(14 * 64, 4), "\3\0n\0");
    }

    /** The map has not the BLOCK of further ones: it is the least that is free, all 0s, and then the sixteenth place in itself. */
    private static void foldersGrowIntoTheirFurtherOnes() {
        KIT.says("without one the folder gets a BLOCK of 0s more, before the file's");
        Image m = rootOf(15, 15 * 64);
        m.a[128 + 12 / 8] &= ~(1 << 12 % 8);
        Desk x = Desk.of(m);
        KIT.due("a sixteenth place", x.saved(0, "n", ""), 0);
        KIT.due("the ROW first, then the place", x.bytes(12 * 64, 64), "\3\0n" + Kit.many('\0', 13) + "\14" + Kit.many('\0', 47));
        KIT.due("the size", x.number(nodeAt(1) + 2, 2), 1024);
    }

    private static void foldersOf39Places() {
        KIT.says("A node has as many places as its size needs (39 at most).");
        Desk x = Desk.of(rootOf(38, 38 * 64));
        KIT.due("a 39th place", x.saved(0, "n", ""), 0);
        KIT.due("it is there", x.number(12 * 64 + 62, 2) + " " + x.number(nodeAt(1) + 2, 2), "44 2496");
        KIT.due("its second ROW is free", x.saved(0, "o", "c"), 1);
        Desk y = Desk.of(rootOf(39, 39 * 64));
        long before = all(y);
        KIT.due("no 40th", y.saved(0, "n", ""), -3);
        KIT.due("no folder", y.foldered(0, "n"), -3);
        KIT.due("nothing is done", all(y), before);
        Desk z = Desk.of(rootOf(39, 65535));
        KIT.due("of a greater size", z.saved(0, "n", ""), -3);
        Desk w = Desk.of(rootOf(39, 65535).b2(44 * 64 + 48, 0));
        KIT.due("the last of 156 ROWS", w.saved(0, "n", ""), 0);
        KIT.due("there", w.number(44 * 64 + 48, 2), 3);
        Desk v = Desk.of(rootOf(38, 38 * 64 - 16));
        KIT.due("though its last ROW is not whole", v.saved(0, "n", ""), 0);
        KIT.due("a 39th place, too", v.number(nodeAt(1) + 2, 2), 2496);
    }

    // ---- what is followed

    private static void rowsWhoseNodeIsOne() {
        KIT.says("ROWS are found by their NAMES (4; of NODES those alone whose node is one), the first of each.");
        Image m = Image.nodes(30, 8).node(2, 3, 0).node(3, 0, 0).node(4, 1, 0).node(5, 1, 0).b(160, 1);
        m.node(1, 2, 128, 7, 8).takes(8).named(7, 0, 9, "a").named(7, 1, 2, "a").named(7, 2, 3, "a").named(7, 3, 0, "a");
        m.named(8, 0, 0x0104, "a").named(8, 1, 4, "a").named(8, 2, 5, "a");
        Desk x = Desk.of(m);
        x.tick(9);
        KIT.due("above m, KIND 3, KIND 0, none, above m, then one", x.saved(0, "a", "q"), 1);
        KIT.due("the first that is one", node(x, 4), "1 1 1 0 9 0");
        KIT.due("not the second", node(x, 5), "1 1 0 0 0 0");
        KIT.due("erase", x.erased(0, "a"), 0);
        KIT.due("its ROW", x.number(8 * 64 + 16, 2), 0);
        KIT.due("erase the other", x.erased(0, "a"), 0);
        KIT.due("no more", x.erased(0, "a"), -4);
        KIT.due("m is one", Desk.of(Image.nodes(30, 8).named(7, 0, 8, "z").node(8, 1, 0)).erased(0, "z"), 0);
    }

    private static void placesLeftOut() {
        KIT.says("Chains and nodes are followed as in walking (4; only what is FAULT 2 to 4 there ends them or is left out).");
        Image m = Image.nodes(30, 8).b2(4, 28).named(7, 0, 2, "a").node(2, 1, 7 * 64, 6, 8, 28, 0, 9, 500, 27).takes(8, 9, 27, 28);
        Desk x = Desk.of(m);
        KIT.due("erase", x.erased(0, "a"), 0);
        KIT.due("below the DATA BLOCKS, n and more are left out", Long.toHexString(x.number(128, 8)), Long.toHexString(255 + (1 << 28)));
        Image f = Image.nodes(30, 8).named(7, 0, 2, "a").node(2, 1, 9 * 64, 8).further(2, 6).takes(8, 9, 10).b2(6 * 64, 9).b2(6 * 64 + 2, 10);
        Desk y = Desk.of(f);
        KIT.due("erase, the BLOCK of further ones is none", y.erased(0, "a"), 0);
        KIT.due("what it has is left out", Long.toHexString(y.number(128, 8)), "6ff");
        Image g = Image.nodes(30, 8).b2(4, 25).named(7, 0, 2, "a").node(2, 1, 9 * 64, 8).further(2, 25).takes(8, 9, 25).b2(25 * 64, 9);
        Desk z = Desk.of(g);
        KIT.due("erase, it is n", z.erased(0, "a"), 0);
        KIT.due("left out, too", Long.toHexString(z.number(128, 8)), Long.toHexString(255 + 512 + (1 << 25)));
        Image h = Image.nodes(30, 8).named(7, 0, 2, "d").node(2, 2, 9 * 64, 8).further(2, 10).takes(8, 9, 10).b2(10 * 64, 9).named(9, 3, 3, "f").node(3, 1, 0);
        KIT.due("a ROW behind the seventh place", Desk.of(h).erased(0, "d/f"), 0);
        KIT.says("only what is FAULT 2 to 4 there ends them or is left out");
        Image p = Image.nodes(30, 8).named(7, 0, 2, "a").named(7, 1, 3, "b").node(2, 1, 64, 8).node(3, 1, 128, 8, 7).takes(8);
        Desk w = Desk.of(p);
        KIT.due("erase, BLOCKS of an earlier file and of the root", w.erased(0, "b"), 0);
        KIT.due("are left as any", w.number(128, 2), 0x7F);
        Image q = Image.nodes(30, 8).named(7, 0, 1, "r").named(7, 1, 2, "a").node(2, 1, 0);
        KIT.due("a folder that is the root", Desk.of(q).erased(0, "r/r/r/r/r/a"), 0);
    }

    // ---- erase

    private static void eraseFiles() {
        KIT.says("NODES: its ROW'S node is 0, its node's KIND and byte 1 are 0, ERASED is NOW, both maps have it and its BLOCKS not; all else stays (the ROW is written last here, too).");
        Image m = Image.nodes(30, 8).named(7, 1, 8, "abc").node(8, 1, 9 * 64 - 1, 8, 9, 10, 11, 12, 13, 14).further(8, 20).takes(8, 9, 10, 11, 12, 13, 14, 20, 15, 17).b2(20 * 64, 15).b2(20 * 64 + 2, 17);
        m.moments(8, 1, 2, 3).fill(8 * 64, 64, 'x');
        Desk x = Desk.of(m);
        x.tick(0x10203040);
        KIT.due("erase", x.erased(0, "abc"), 0);
        m.b2(7 * 64 + 16, 0).b2(nodeAt(8), 0).moments(8, 1, 2, 0x10203040).b(65, 0).fill(128, 3, 0).takes(0, 1, 2, 3, 4, 5, 6, 7);
        KIT.due("all bytes", all(x), Kit.crc(m.a));
    }

    private static void eraseFolders() {
        KIT.says("a folder without living ROWS (NODES: each ROW that names a node is one, whatever that node is)");
        Image m = Image.nodes(30, 8).named(7, 0, 2, "d").node(2, 2, 128, 8, 9).takes(8, 9).named(9, 2, 0, "gone");
        KIT.due("of none", Desk.of(m).erased(0, "d"), 0);
        int[] nodes = {1, 2, 3, 8, 9, 256, 65535};
        for (int node : nodes) {
            Desk x = Desk.of(m.b2(9 * 64 + 32, node));
            KIT.due("with a ROW of node " + node, x.erased(0, "d"), -4);
            KIT.due("nothing is done", all(x), Kit.crc(m.a));
        }
        KIT.due("in a place that has no BLOCK", Desk.of(m.b2(nodeAt(2) + 18, 6)).erased(0, "d"), 0);
        KIT.due("behind its size", Desk.of(m.b2(nodeAt(2) + 18, 9).b2(nodeAt(2) + 2, 64 + 47)).erased(0, "d"), 0);
        KIT.due("the last whole one", Desk.of(m.b2(nodeAt(2) + 2, 64 + 48)).erased(0, "d"), -4);
        KIT.due("a folder without places", Desk.of(m.b2(nodeAt(2) + 2, 0)).erased(0, "d"), 0);
    }

    private static void eraseWhatIsNotThere() {
        KIT.says("PATH: nothing is there, or a folder with living ROWS.");
        Desk x = disk();
        KIT.due("in an empty root", x.erased(0, "a"), -4);
        x.saved(0, "a", "");
        KIT.due("another", x.erased(0, "b"), -4);
        KIT.due("in a file", x.erased(0, "a/a"), -4);
        KIT.due("in no folder", x.erased(0, "d/a"), -4);
        KIT.due("it", x.erased(0, "a"), 0);
        KIT.due("it again", x.erased(0, "a"), -4);
    }
}
