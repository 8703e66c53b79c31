/** Boundary cases of CELLS in "3 FORMS" and of promises 19 to 22, each by the sentence that names it. */
public final class EdgesCellsTest {
    private static final Kit KIT = new Kit("EdgesCells");
    private static final int MAX = Integer.MAX_VALUE, MIN = Integer.MIN_VALUE;

    public static void main(String[] args) {
        formatArguments();
        formatLeastT();
        formatTooFewBlocks();
        formatWritesAll();
        saveSizes();
        saveWithoutAByte0();
        saveTwoTables();
        momentsOfZones();
        momentsAtTheirGreatest();
        letters();
        nameLengths();
        pathLengths();
        pathsThatAreNone();
        foldersAndFiles();
        answersInTheirOrder();
        emptiedAndKept();
        fullClusters();
        fullRows();
        fullWithTheFolder();
        clustersThatAreFree();
        clustersOfTheFileAreFreeFirst();
        rowsThatAreTaken();
        rowsOfAFileThatIsThere();
        foldersOf0s();
        foldersGrow();
        foldersWithoutClustersGrow();
        rowsByTheirNames();
        chainsAsInWalking();
        chainsOfEarlierFiles();
        eraseFiles();
        eraseFolders();
        eraseWhatIsNotThere();
        KIT.finish();
    }

    /** One TABLE, a root of two BLOCKS (2, 3), CLUSTERS 2 .. 17 in BLOCKS 4 .. 19, ZONE 0. */
    private static Desk disk() {
        return Desk.formatted(20, 1, 48 * 8 + 2);
    }

    private static Image image() {
        return Image.cells(20, 1, 1, 2, 0);
    }

    private static int cell(Desk x, int c) {
        return (int) x.number(64 + 2 * c, 2);
    }

    private static String cells(Desk x, int from, int to) {
        StringBuilder s = new StringBuilder();
        for (int c = from; c <= to; c++) s.append(Integer.toHexString(cell(x, c))).append(' ');
        return s.toString();
    }

    private static long all(Desk x) {
        return x.crc(0, 0, 64 * x.sectors(0));
    }

    // ---- format

    private static void formatArguments() {
        KIT.says("1 CELLS: TABLES are argument % 2 and 1, r is argument / 2 % 4 and 1, ZONE argument / 8 less 48 (at most 48)");
        Desk x = Desk.blanks(20);
        KIT.due("-1", x.format(0, 1, -1), -2);
        KIT.due("776", x.format(0, 1, 776), -2);
        KIT.due("the greatest int", x.format(0, 1, MAX), -2);
        KIT.due("the least int", x.format(0, 1, MIN), -2);
        KIT.due("kind 0", x.format(0, 0, 0), -2);
        KIT.due("kind 4", x.format(0, 4, 0), -2);
        KIT.due("kind -1", x.format(0, -1, 0), -2);
        KIT.due("VOLUME 1", x.format(1, 1, 0), -2);
        KIT.due("VOLUME -1", x.format(-1, 1, 0), -2);
        KIT.due("nothing is done", x.volumeByte(0, 0), 0);
        KIT.due("0", x.format(0, 1, 0), 0);
        KIT.due("its head", x.bytes(0, 8), "CF\1\1\24\0\1\u00d0");
        KIT.due("775", x.format(0, 1, 775), 0);
        KIT.due("its head, too", x.bytes(0, 8), "CF\2\1\24\0\4\60");
        KIT.due("7", x.format(0, 1, 7), 0);
        KIT.due("TABLES, r and ZONE of 7", x.volumeByte(0, 2) + " " + x.volumeByte(0, 6) + " " + x.volumeByte(0, 7), "2 4 208");
        KIT.due("8", x.format(0, 1, 8), 0);
        KIT.due("TABLES, r and ZONE of 8", x.volumeByte(0, 2) + " " + x.volumeByte(0, 6) + " " + x.volumeByte(0, 7), "1 1 209");
        KIT.due("the last two bytes", x.volumeByte(0, 62) + " " + x.volumeByte(0, 63), "85 170");
        KIT.due("CELLS 0, 1, 2", cells(x, 0, 2), "fff8 fff8 0 ");
    }

    private static int leastT(int sectors, int argument) {
        Desk x = Desk.formatted(sectors, 1, 48 * 8 + argument);
        int t = x.volumeByte(0, 3);
        KIT.due("it is GOOD", x.mount(0), 0);
        return t;
    }

    private static void formatLeastT() {
        KIT.says("t the least there can be");
        KIT.due("30 CLUSTERS", leastT(33, 0), 1);
        KIT.due("one BLOCK more", leastT(34, 0), 2);
        KIT.due("62 CLUSTERS", leastT(66, 0), 2);
        KIT.due("one more than that", leastT(67, 0), 3);
        KIT.due("two TABLES, 30 CLUSTERS", leastT(34, 1), 1);
        KIT.due("two TABLES, one BLOCK more", leastT(35, 1), 2);
        KIT.due("a root of 4, 30 CLUSTERS", leastT(36, 6), 1);
        KIT.due("a root of 4, one BLOCK more", leastT(37, 6), 2);
        KIT.due("128 BLOCKS", leastT(128, 0), 4);
        Desk x = new Desk();
        x.blank(128);
        x.blank(128);
        x.volume(0, 0, 128);
        x.volume(1, 0, 128);
        x.join(1, 0, 1, -1);
        KIT.due("256 BLOCKS", x.format(2, 1, 48 * 8 + 7), 0);
        KIT.due("their t", x.byteAt(0, 3), 8);
        KIT.due("their n", x.byteAt(0, 4) + " " + x.byteAt(0, 5), "0 1");
        x.mount(2);
        KIT.due("n as it is told", x.tree(0, 5), 256);
        KIT.due("its last CLUSTER", x.owner(0, 255), 0);
    }

    private static void formatTooFewBlocks() {
        KIT.says("FORM, and nothing is done: too few BLOCKS for a GOOD form with one CLUSTER");
        int[][] least = {{0, 4}, {1, 5}, {2, 5}, {6, 7}, {7, 8}};
        for (int[] l : least) {
            Desk x = Desk.blanks(l[1] - 1);
            x.poke(0, 0, 9);
            KIT.due("argument " + l[0] + " of " + (l[1] - 1), x.format(0, 1, l[0]), -5);
            KIT.due("nothing is done", x.volumeByte(0, 0), 9);
            Desk y = Desk.blanks(l[1]);
            KIT.due("argument " + l[0] + " of " + l[1], y.format(0, 1, l[0]), 0);
            KIT.due("one CLUSTER", y.saved(0, "A", "a"), 1);
            KIT.due("no more", y.saved(0, "A", Kit.many('a', 65)), -3);
        }
        Desk z = Desk.blanks(1);
        KIT.due("one BLOCK", z.format(0, 1, 0), -5);
    }

    private static void formatWritesAll() {
        KIT.says("A VOLUME gets a form, all other bytes being 0 (all BLOCKS are written)");
        Desk x = Desk.of(new Image(9).fill(0, 9 * 64, 255));
        x.put("abc");
        KIT.due("format", x.format(0, 1, 48 * 8), 0);
        Image m = Image.cells(9, 1, 1, 1, 0);
        KIT.due("all bytes", all(x), Kit.crc(m.a));
        KIT.due("COLLECTED stay", x.forget(), 3);
    }

    // ---- save

    private static void saveSizes() {
        KIT.says("SAVE: how many CLUSTERS or DATA BLOCKS with contents the file has.");
        int[] sizes = {0, 1, 63, 64, 65, 127, 128, 129};
        for (int size : sizes) {
            Desk x = Desk.of(image().fill(4 * 64, 16 * 64, 9));
            int need = (size + 63) / 64;
            KIT.due("save of " + size, x.saved(0, "A", Kit.many('x', size)), need);
            KIT.due("the size of " + size, x.number(128 + 28, 4), size);
            KIT.due("the first CLUSTER of " + size, x.number(128 + 26, 2), need == 0 ? 0 : 2);
            KIT.due("the last byte of " + size, x.volumeByte(0, 4 * 64 + size - 1), size == 0 ? 0 : 'x');
            KIT.says("0s come behind the end");
            if (need > 0) KIT.due("its last BLOCK'S last byte of " + size, x.volumeByte(0, 4 * 64 + 64 * need - 1), size % 64 == 0 ? 'x' : 0);
            KIT.due("behind its BLOCKS of " + size, x.volumeByte(0, 4 * 64 + 64 * need), 9);
            KIT.says("the maker writes 0xFFFF");
            if (need > 0) KIT.due("the last CELL of " + size, cell(x, 1 + need), 0xFFFF);
            KIT.due("the next CELL of " + size, cell(x, 2 + need), 0);
        }
    }

    private static void saveWithoutAByte0() {
        KIT.says("SAVE: a path, a byte 0, the contents (COLLECTED; without a byte 0 a path alone).");
        Desk x = disk();
        KIT.due("without a byte 0", x.put("A").save(0), 0);
        KIT.due("a byte 0 and nothing", x.put("B\0").save(0), 0);
        KIT.due("two bytes 0", x.put("C\0\0").save(0), 1);
        KIT.due("sizes", x.number(128 + 28, 4) + " " + x.number(160 + 28, 4) + " " + x.number(192 + 28, 4), "0 0 1");
        KIT.due("a byte 0 alone", x.put("\0").save(0), -4);
        KIT.due("nothing", x.save(0), -4);
        x.put("EFGH\0xxxxxxxxxxxxxxxx");
        x.forget();
        KIT.due("without a byte 0, where more was collected", x.put("E").save(0), 0);
        KIT.due("its ROW", x.bytes(128 + 96, 11) + x.number(128 + 96 + 28, 4), "E          0");
        x.erased(0, "E");
        KIT.due("all signs", x.put("D\0" + "\u00ff/\0").save(0), 1);
        KIT.due("as they were", x.bytes(5 * 64, 4), "\u00ff/\0\0");
    }

    private static void saveTwoTables() {
        KIT.says("New CLUSTERS, BLOCKS (DATA BLOCKS alone) are the least that are free (by the first TABLE, by the map), in order");
        Image m = Image.cells(20, 2, 1, 1, 0).cellIn(0, 2, 0xFFF7).cellIn(1, 3, 7).cellIn(0, 4, 1);
        Desk x = Desk.of(m);
        KIT.due("save", x.saved(0, "A", Kit.many('a', 65)), 2);
        KIT.due("the first TABLE", cells(x, 2, 6), "fff7 5 1 ffff 0 ");
        KIT.due("the second TABLE", x.number(128 + 4, 2) + " " + x.number(128 + 6, 2) + " " + x.number(128 + 8, 2) + " " + x.number(128 + 10, 2), "0 5 0 65535");
        KIT.says("CELLS of all TABLES become 0");
        KIT.due("save again", x.saved(0, "A", ""), 0);
        KIT.due("the first TABLE", cells(x, 2, 6), "fff7 0 1 0 0 ");
        KIT.due("the second TABLE", x.number(128 + 4, 4) + x.number(128 + 8, 4), 0);
    }

    // ---- moments

    private static long madeAt(int zone, int now) {
        Desk x = Desk.formatted(20, 1, 8 * (zone + 48));
        x.tick(Math.min(now, 1000000000));
        x.tick(Math.max(0, now - 1000000000));
        x.saved(0, "A", "");
        KIT.due("MADE and ALTERED", x.number(128 + 18, 4), x.number(128 + 14, 4));
        return x.number(128 + 14, 4);
    }

    private static void momentsOfZones() {
        KIT.says("in two seconds of the ZONE'S time: NOW and 900 ZONE, 0 at least, halved downward");
        KIT.due("0", madeAt(0, 0), 0);
        KIT.due("1", madeAt(0, 1), 0);
        KIT.due("2", madeAt(0, 2), 1);
        KIT.due("3", madeAt(0, 3), 1);
        KIT.due("below 0", madeAt(-48, 0), 0);
        KIT.due("one below 0", madeAt(-48, 43199), 0);
        KIT.due("0 there", madeAt(-48, 43200), 0);
        KIT.due("1 there", madeAt(-48, 43201), 0);
        KIT.due("2 there", madeAt(-48, 43202), 1);
        KIT.due("the greatest ZONE", madeAt(48, 0), 21600);
        KIT.due("ZONE 1", madeAt(1, 1), 450);
        KIT.due("ZONE -1", madeAt(-1, 901), 0);
        KIT.due("ZONE -1, one more", madeAt(-1, 902), 1);
    }

    private static void momentsAtTheirGreatest() {
        KIT.says("in two seconds of the ZONE'S time: NOW and 900 ZONE, 0 at least, halved downward");
        KIT.due("ZONE 0", madeAt(0, 2000000000), 1000000000);
        KIT.due("ZONE 48", madeAt(48, 2000000000), 1000021600);
        KIT.due("ZONE -48", madeAt(-48, 1999999999), 999978399);
        KIT.due("four bytes", madeAt(0, 0x12345678), 0x12345678 / 2);
    }

    // ---- NAMES and paths

    private static void letters() {
        KIT.says("NAMES: 1 .. 8 letters A .. Z and digits, then nothing or . and 1 .. 3 such.");
        char[] signs = {'@', 'A', 'Z', '[', '/', '0', '9', ':', 'a', 'z', ' ', '-', '_', '\1', '\u00c1', '\u00e5', '\u00ff', '.'};
        for (char c : signs) {
            boolean good = c >= 'A' && c <= 'Z' || c >= '0' && c <= '9';
            KIT.due("of one: " + (int) c, disk().saved(0, "" + c, ""), good ? 0 : -4);
            KIT.due("at last: " + (int) c, disk().saved(0, "X" + c, ""), good ? 0 : -4);
            KIT.due("behind the dot: " + (int) c, disk().saved(0, "X." + c, ""), good ? 0 : -4);
            KIT.due("third behind the dot: " + (int) c, disk().saved(0, "X.YZ" + c, ""), good ? 0 : -4);
        }
    }

    private static void nameLengths() {
        KIT.says("NAMES: 1 .. 8 letters A .. Z and digits, then nothing or . and 1 .. 3 such.");
        String[] names = {"A", "ABCDEFGH", "A.B", "A.BCD", "ABCDEFGH.IJK"};
        for (String name : names) {
            Desk x = disk();
            KIT.due("save " + name, x.saved(0, name, ""), 0);
            x.mount(0);
            KIT.due("told as " + name, x.nameOf(0, 0), name);
            KIT.due("found as " + name, x.found(0, name), 0);
            KIT.due("folder " + name, x.foldered(0, name), -4);
            KIT.due("erase " + name, x.erased(0, name), 0);
        }
        String[] wrong = {"ABCDEFGHI", "A.", "A.BCDE", ".B", ".", "A..B", "A.B.C", "ABCDEFGHI.J", "A.B."};
        for (String name : wrong) {
            Desk x = disk();
            KIT.due("save " + name, x.saved(0, name, ""), -4);
            KIT.due("folder " + name, x.foldered(0, name), -4);
            KIT.due("erase " + name, x.erased(0, name), -4);
        }
    }

    private static void pathLengths() {
        KIT.says("a path has up to 40 bytes and 6 NAMES (but what find() is told)");
        Desk x = Desk.formatted(40, 1, 48 * 8 + 2);
        String path = "FFFFFF";
        for (int i = 0; i < 5; i++) {
            KIT.due("folder of " + (i + 1) + " NAMES", x.foldered(0, path), 0);
            if (i < 4) path += "/FFFFFF";
        }
        KIT.due("six NAMES, 40 bytes", x.saved(0, path + "/ABCDE", ""), 0);
        KIT.due("six NAMES, 41 bytes", x.saved(0, path + "/ABCDEF", ""), -4);
        KIT.due("a folder of 40 bytes", x.foldered(0, path + "/ABCDF"), 0);
        KIT.due("a folder of 41 bytes", x.foldered(0, path + "/ABCDEF"), -4);
        KIT.due("erase of 41 bytes", x.erased(0, path + "/ABCDEF"), -4);
        KIT.due("a folder of six NAMES", x.foldered(0, path + "/A"), 0);
        KIT.due("seven NAMES, 39 bytes", x.saved(0, path + "/A/B", ""), -4);
        KIT.due("erase of 40 bytes", x.erased(0, path + "/ABCDF"), 0);
        x.mount(0);
        KIT.due("find() takes 40 bytes", x.found(0, path + "/ABCDE"), 5);
        KIT.due("find() takes seven NAMES", x.found(0, path + "/A/B"), -1);
        Desk y = Desk.formatted(40, 1, 48 * 8 + 2);
        String s = "D";
        for (int i = 0; i < 5; i++) {
            y.foldered(0, s);
            s += "/D";
        }
        KIT.due("a sixth folder", y.foldered(0, s), 0);
        KIT.due("a seventh", y.foldered(0, s + "/D"), -4);
        KIT.due("a file there", y.saved(0, s + "/F", ""), -4);
    }

    private static void pathsThatAreNone() {
        KIT.says("NAMES in paths have / between");
        String[] wrong = {"", "/", "A/", "/A", "A//B", "D/", "/D/A", "D//A", "//"};
        for (String path : wrong) {
            Desk x = disk();
            x.foldered(0, "D");
            KIT.due("save " + path, x.saved(0, path, ""), -4);
            KIT.due("folder " + path, x.foldered(0, path), -4);
            KIT.due("erase " + path, x.erased(0, path), -4);
        }
        KIT.says("a byte 0 in them is none of a path; so with all but SAVE and find()");
        Desk x = disk();
        x.saved(0, "A", "");
        KIT.due("folder", x.foldered(0, "B\0"), -4);
        KIT.due("folder, in the middle", x.foldered(0, "B\0C"), -4);
        KIT.due("erase", x.erased(0, "A\0"), -4);
        KIT.due("erase without", x.erased(0, "A"), 0);
    }

    private static void foldersAndFiles() {
        KIT.says("CELLS, NODES: the folder must be there, and what is there be no folder");
        Desk x = disk();
        KIT.due("in no folder", x.saved(0, "D/A", ""), -4);
        KIT.due("a folder in no folder", x.foldered(0, "D/E"), -4);
        x.foldered(0, "D");
        x.saved(0, "F", "");
        KIT.due("where a folder is", x.saved(0, "D", ""), -4);
        KIT.due("in a file", x.saved(0, "F/A", ""), -4);
        KIT.due("a folder in a file", x.foldered(0, "F/A"), -4);
        KIT.says("PATH also if anything is there; TAPE: never for that");
        KIT.due("a folder where a folder is", x.foldered(0, "D"), -4);
        KIT.due("a folder where a file is", x.foldered(0, "F"), -4);
        KIT.due("a file where a file is", x.saved(0, "F", "f"), 1);
        KIT.due("in the folder", x.saved(0, "D/A", "a"), 1);
    }

    private static void answersInTheirOrder() {
        KIT.says("the first of FORM: it is not GOOD, or a TAPE whose walk has a FAULT; PATH: it is none, or its folder is not there, or a folder is (TAPE: the first alone); FULL.");
        Desk x = Desk.formatted(4, 1, 48 * 8);
        x.saved(0, "A", "a");
        x.saved(0, "B", "");
        KIT.due("no path, and too many bytes", x.saved(0, "a", Kit.many('x', 65)), -4);
        KIT.due("no folder, and too many bytes", x.saved(0, "D/A", Kit.many('x', 65)), -4);
        KIT.due("a file as a folder, and too many bytes", x.saved(0, "A/A", Kit.many('x', 65)), -4);
        KIT.due("a folder where a file is, and none is free", x.foldered(0, "A"), -4);
        KIT.due("FULL", x.saved(0, "A", Kit.many('x', 65)), -3);
        KIT.due("FULL, too", x.foldered(0, "D"), -3);
        x.poke(0, 63, 0);
        KIT.due("FORM, and no path, and too many bytes", x.saved(0, "a", Kit.many('x', 65)), -5);
        KIT.due("FORM, a folder", x.foldered(0, "A"), -5);
        KIT.due("FORM, erase", x.erased(0, "C"), -5);
        KIT.says("BAD goes first in all calls");
        KIT.due("BAD, save", x.save(1), -2);
        KIT.due("BAD, folder", x.folder(1), -2);
        KIT.due("BAD, erase", x.erase(1), -2);
    }

    private static void emptiedAndKept() {
        KIT.says("BAD; else COLLECTED are empty then");
        Desk x = Desk.formatted(4, 1, 48 * 8);
        x.put("A");
        KIT.due("save(1)", x.save(1), -2);
        KIT.due("save(-1)", x.save(-1), -2);
        KIT.due("folder(1)", x.folder(1), -2);
        KIT.due("folder(-1)", x.folder(-1), -2);
        KIT.due("erase(1)", x.erase(1), -2);
        KIT.due("erase(-1)", x.erase(-1), -2);
        KIT.due("COLLECTED stay", x.count(0), 1);
        KIT.due("save", x.save(0), 0);
        KIT.due("COLLECTED behind save", x.count(0), 0);
        KIT.due("PATH of save", x.saved(0, "a", ""), -4);
        KIT.due("COLLECTED behind PATH", x.count(0), 0);
        KIT.due("FULL of save", x.saved(0, "A", Kit.many('x', 65)), -3);
        KIT.due("COLLECTED behind FULL", x.count(0), 0);
        KIT.due("PATH of folder", x.foldered(0, "A"), -4);
        KIT.due("COLLECTED behind PATH of folder", x.count(0), 0);
        KIT.says("BAD; COLLECTED are empty then; FORM, also of a TAPE; PATH: nothing is there, or a folder with living ROWS.");
        KIT.due("PATH of erase", x.erased(0, "B"), -4);
        KIT.due("COLLECTED behind PATH of erase", x.count(0), 0);
        KIT.due("erase", x.erased(0, "A"), 0);
        KIT.due("COLLECTED behind erase", x.count(0), 0);
        x.poke(0, 0, 0);
        KIT.due("FORM of save", x.saved(0, "A", "a"), -5);
        KIT.due("COLLECTED behind FORM of save", x.count(0), 0);
        KIT.due("FORM of folder", x.foldered(0, "A"), -5);
        KIT.due("COLLECTED behind FORM of folder", x.count(0), 0);
        KIT.due("FORM of erase", x.erased(0, "A"), -5);
        KIT.due("COLLECTED behind FORM of erase", x.count(0), 0);
    }

    // ---- FULL

    private static void fullClusters() {
        KIT.says("FULL, and nothing is done: there are too few CLUSTERS, BLOCKS, ROWS, nodes, or the file would have more than 39 BLOCKS (NODES).");
        Desk x = disk();
        long before = all(x);
        KIT.due("17 CLUSTERS of 16", x.saved(0, "A", Kit.many('a', 16 * 64 + 1)), -3);
        KIT.due("nothing is done", all(x), before);
        KIT.due("16 of 16", x.saved(0, "A", Kit.many('a', 16 * 64)), 16);
        KIT.due("the last CELL", cells(x, 16, 18), "11 ffff 0 ");
        before = all(x);
        KIT.due("one more", x.saved(0, "B", "b"), -3);
        KIT.due("a folder", x.foldered(0, "B"), -3);
        KIT.due("nothing is done, either", all(x), before);
        KIT.due("a file without bytes", x.saved(0, "B", ""), 0);
        Desk y = Desk.of(Image.cells(20, 1, 1, 2, 0).b2(4, 8));
        KIT.due("of n BLOCKS alone: 5 CLUSTERS of 4", y.saved(0, "A", Kit.many('a', 4 * 64 + 1)), -3);
        KIT.due("4 of 4", y.saved(0, "A", Kit.many('a', 4 * 64)), 4);
    }

    private static void fullRows() {
        KIT.says("a root does not grow");
        Desk x = Desk.formatted(20, 1, 48 * 8);
        KIT.due("the first", x.saved(0, "A", "a"), 1);
        KIT.due("the last ROW", x.foldered(0, "B"), 0);
        long before = all(x);
        KIT.due("a third", x.saved(0, "C", "c"), -3);
        KIT.due("a third folder", x.foldered(0, "C"), -3);
        KIT.due("a third without bytes", x.saved(0, "C", ""), -3);
        KIT.due("nothing is done", all(x), before);
        KIT.due("what is there", x.saved(0, "A", "b"), 1);
        KIT.due("erase", x.erased(0, "A"), 0);
        KIT.due("its ROW is free", x.saved(0, "C", "c"), 1);
        KIT.due("in its place", x.bytes(128, 3), "C  ");
    }

    private static void fullWithTheFolder() {
        KIT.says("without one the folder gets a BLOCK of 0s more, before the file's");
        for (int left = 0; left < 3; left++) {
            Desk x = disk();
            x.foldered(0, "D");
            x.saved(0, "D/A", "");
            x.saved(0, "D/B", "");
            x.saved(0, "F", Kit.many('f', 64 * (15 - left)));
            long before = all(x);
            KIT.due("of one BLOCK, " + left + " CLUSTERS left", x.saved(0, "D/C", "c"), left < 2 ? -3 : 1);
            if (left < 2) KIT.due("nothing is done, " + left, all(x), before);
            if (left < 2) KIT.due("a folder, " + left, x.foldered(0, "D/C"), -3);
            if (left < 2) KIT.due("without bytes, " + left, x.saved(0, "D/C", ""), left == 0 ? -3 : 0);
        }
    }

    private static void clustersThatAreFree() {
        KIT.says("0 free, from 0xFFF8 on the end (the maker writes 0xFFFF), 0xFFF7 unfit, else the next CLUSTER");
        Image m = image().cell(0, 0).cell(1, 0).cell(2, 0xFFF7).cell(3, 0xFFF8).cell(4, 1).cell(5, 0xFFFF).cell(6, 0xFFFE).cell(8, 2);
        Desk x = Desk.of(m);
        KIT.due("save", x.saved(0, "A", Kit.many('a', 128)), 2);
        KIT.due("CELLS", cells(x, 0, 9), "0 0 fff7 fff8 1 ffff fffe 9 2 ffff ");
        KIT.due("the first CLUSTER", x.number(128 + 26, 2), 7);
        KIT.due("its BLOCKS", x.volumeByte(0, 9 * 64) + " " + x.volumeByte(0, 10 * 64) + " " + x.volumeByte(0, 11 * 64), "97 0 97");
    }

    private static void clustersOfTheFileAreFreeFirst() {
        KIT.says("a file that is there loses its CLUSTERS, BLOCKS first");
        Desk x = disk();
        x.saved(0, "A", Kit.many('a', 3 * 64));
        x.saved(0, "B", Kit.many('b', 13 * 64));
        KIT.due("as many as it had", x.saved(0, "A", Kit.many('c', 3 * 64)), 3);
        KIT.due("one more than it had", x.saved(0, "A", Kit.many('d', 3 * 64 + 1)), -3);
        KIT.due("it is as it was", x.volumeByte(0, 4 * 64), 'c');
        KIT.due("fewer than it had", x.saved(0, "A", "e"), 1);
        KIT.due("CELLS", cells(x, 2, 5), "ffff 0 0 6 ");
        KIT.due("what it lost stays", x.volumeByte(0, 5 * 64), 'c');
        KIT.due("none", x.saved(0, "A", ""), 0);
        KIT.due("CELLS, too", cells(x, 2, 5), "0 0 0 6 ");
        KIT.due("no first CLUSTER", x.number(128 + 26, 2), 0);
    }

    // ---- ROWS

    private static void rowsThatAreTaken() {
        KIT.says("a new ROW is the first that is none or (CELLS) erased");
        Image m = image().root(0, "A", 0, 0, 0).root(1, "\u00e5", 0, 0, 0).root(2, "B", 0, 0, 0);
        Desk x = Desk.of(m);
        KIT.due("an erased one", x.saved(0, "C", ""), 0);
        KIT.due("it is the second", x.bytes(160, 3), "C  ");
        KIT.due("one that is none", x.saved(0, "D", ""), 0);
        KIT.due("it is the fourth", x.bytes(224, 3), "D  ");
        KIT.due("no more", x.saved(0, "E", ""), -3);
        Image n = image().root(0, "A", 16, 2, 0).chain(2, 3);
        n.row(4 * 64, "X", 0, 0, 0).row(4 * 64 + 32, "Y", 0, 0, 0).row(5 * 64, "\u00e5", 0, 0, 0);
        Desk y = Desk.of(n);
        KIT.due("of a folder's second BLOCK", y.saved(0, "A/Z", ""), 0);
        KIT.due("it is there", y.bytes(5 * 64, 3), "Z  ");
    }

    private static void rowsOfAFileThatIsThere() {
        KIT.says("CELLS: of that of a file that is there ALTERED, the first CLUSTER and the size alone");
        Image m = image().root(0, "A", 0xEF, 2, 9).chain(2, 2).b(128 + 12, 1).b(128 + 13, 2).b4(128 + 22, 0x06050403L).rowMoments(128, 77, 88);
        Desk x = Desk.of(m);
        x.tick(1000);
        KIT.due("save", x.saved(0, "A", Kit.many('z', 65)), 2);
        Image due = m.cell(2, 3).cell(3, 0xFFFF).rowMoments(128, 77, 500).b4(128 + 28, 65).fill(4 * 64, 65, 'z');
        KIT.due("all bytes", all(x), Kit.crc(due.a));
    }

    private static void foldersOf0s() {
        KIT.says("A FOLDER is made likewise: one BLOCK of 0s (TAPE: none).");
        Desk x = Desk.of(image().fill(4 * 64, 128, 9));
        x.tick(20);
        KIT.due("folder", x.foldered(0, "D"), 0);
        KIT.due("its BLOCK", x.crc(0, 4 * 64, 64), Kit.crc(new byte[64]));
        KIT.due("the next", x.volumeByte(0, 5 * 64), 9);
        KIT.due("its ROW", x.bytes(128, 32), "D          \20\0\0\12\0\0\0\12\0\0\0\0\0\0\0\2\0\0\0\0\0");
        KIT.due("its CELL", cells(x, 2, 3), "ffff 0 ");
    }

    private static void foldersGrow() {
        KIT.says("CELLS: the last CLUSTER of its chain leads to it, or its ROW if it has none");
        Image m = Image.cells(20, 2, 1, 1, 0).root(0, "D", 16, 2, 0).cell(2, 5).cell(5, 0xFFFA).fill(4 * 64, 64, 'Q').fill(5 * 64, 13 * 64, 9).fill(7 * 64, 64, 'Q');
        Desk x = Desk.of(m);
        KIT.due("save", x.saved(0, "D/F", "f"), 1);
        KIT.due("CELLS", cells(x, 2, 7), "5 ffff ffff 3 0 0 ");
        KIT.due("the second TABLE", x.number(128 + 10, 2) + " " + x.number(128 + 6, 2) + " " + x.number(128 + 8, 2), "3 65535 65535");
        KIT.due("the ROW is that BLOCK'S first", x.bytes(5 * 64, 3), "F  ");
        KIT.due("a BLOCK of 0s", x.crc(0, 5 * 64 + 32, 32), Kit.crc(new byte[32]));
        KIT.due("the file's BLOCK comes behind", x.bytes(6 * 64, 3), "f\0\0");
        KIT.due("its first CLUSTER", x.number(5 * 64 + 26, 2), 4);
        KIT.says("folders' own moments do not change");
        KIT.due("the folder's ROW", x.bytes(3 * 64, 32), "D          \20" + Kit.many('\0', 14) + "\2" + Kit.many('\0', 5));
    }

    private static void foldersWithoutClustersGrow() {
        KIT.says("or its ROW if it has none");
        int[] firsts = {0, 1, 18, 0xFFFF, 6};
        for (int first : firsts) {
            Desk x = Desk.of(image().root(0, "D", 16, first, 0).cell(6, 0xFFF7));
            KIT.due("save, first CLUSTER " + first, x.saved(0, "D/F", ""), 0);
            KIT.due("its ROW leads to the new one, " + first, x.number(128 + 26, 2), 2);
            KIT.due("the new one is the end, " + first, cell(x, 2), 0xFFFF);
            KIT.due("the ROW is there, " + first, x.bytes(4 * 64, 2), "F ");
        }
        Desk y = Desk.of(image().root(0, "D", 16, 2, 0).cell(2, 3).row(4 * 64, "A", 0, 0, 0).row(4 * 64 + 32, "B", 0, 0, 0));
        KIT.due("a chain that ends before a free CELL", y.saved(0, "D/F", ""), 0);
        KIT.due("leads to it", cells(y, 2, 4), "3 ffff 0 ");
    }

    private static void rowsByTheirNames() {
        KIT.says("ROWS are found by their NAMES (4; of NODES those alone whose node is one), the first of each.");
        Image m = image().root(0, "A", 0, 0, 0).root(1, "A", 0, 0, 0).root(2, "\u00e5", 0, 0, 0).root(3, "B", 0, 0, 0);
        Desk x = Desk.of(m);
        KIT.due("of two the first", x.saved(0, "A", "1"), 1);
        KIT.due("sizes", x.number(128 + 28, 4) + " " + x.number(160 + 28, 4), "1 0");
        KIT.due("erase the first", x.erased(0, "A"), 0);
        KIT.due("erase the second", x.erased(0, "A"), 0);
        KIT.due("no third", x.erased(0, "A"), -4);
        KIT.due("behind erased ones", x.saved(0, "B", "b"), 1);
        KIT.due("it was there", x.number(224 + 28, 4), 1);
        KIT.says("The first byte 0: none, nor behind it in this folder; 0xE5: erased.");
        x.poke(0, 192, 0);
        KIT.due("behind one that is none", x.erased(0, "B"), -4);
        KIT.due("it is made anew", x.saved(0, "B", ""), 0);
        KIT.due("in the first erased one", x.bytes(128, 2), "B ");
        KIT.says("byte 11: 16 is in it or not");
        Desk y = Desk.of(image().root(0, "A", 255 - 16, 0, 0).root(1, "B", 255, 2, 0).chain(2, 2).root(2, "C", 16, 0, 0).root(3, "D", 1, 0, 0));
        KIT.due("239 is a file", y.saved(0, "A", ""), 0);
        KIT.due("1 is a file", y.saved(0, "D", ""), 0);
        KIT.due("255 is a folder", y.saved(0, "B", ""), -4);
        KIT.due("a file in it", y.saved(0, "B/F", ""), 0);
        KIT.due("16 is a folder", y.saved(0, "C", ""), -4);
    }

    private static void chainsAsInWalking() {
        KIT.says("Chains and nodes are followed as in walking (4; only what is FAULT 2 to 4 there ends them or is left out).");
        int[] ends = {0xFFF8, 0xFFFB, 0xFFFF};
        for (int end : ends) {
            Desk x = Desk.of(image().root(0, "A", 0, 2, 9).cell(2, 4).cell(4, end).cell(5, 9));
            KIT.due("erase, the end is " + end, x.erased(0, "A"), 0);
            KIT.due("CELLS, the end was " + end, cells(x, 2, 5), "0 0 0 9 ");
        }
        int[] none = {1, 18, 0xFFF6};
        for (int to : none) {
            Desk x = Desk.of(image().root(0, "A", 0, 2, 9).cell(2, 4).cell(4, to).cell(5, 9));
            KIT.due("erase, FAULT 2: " + to, x.erased(0, "A"), 0);
            KIT.due("CELLS, FAULT 2: " + to, cells(x, 1, 5), "fff8 0 0 0 9 ");
        }
        Desk y = Desk.of(image().root(0, "A", 0, 2, 9).cell(2, 4).cell(4, 6).cell(6, 0xFFF7));
        KIT.due("erase, FAULT 3", y.erased(0, "A"), 0);
        KIT.due("the unfit one stays", cells(y, 2, 6), "0 0 0 0 fff7 ");
        Desk z = Desk.of(image().root(0, "A", 0, 2, 9).cell(2, 4).cell(4, 6).cell(6, 4).root(1, "B", 0, 8, 9).cell(8, 8));
        KIT.due("erase, FAULT 4", z.erased(0, "A"), 0);
        KIT.due("CELLS, FAULT 4", cells(z, 2, 8), "0 0 0 0 0 0 8 ");
        KIT.due("erase, a CLUSTER that leads to itself", z.erased(0, "B"), 0);
        KIT.due("its CELL", cell(z, 8), 0);
        Desk w = Desk.of(image().root(0, "A", 0, 17, 9).cell(17, 0xFFFF));
        KIT.due("the last CLUSTER", w.erased(0, "A"), 0);
        KIT.due("its CELL is 0", cell(w, 17), 0);
    }

    private static void chainsOfEarlierFiles() {
        KIT.says("only what is FAULT 2 to 4 there ends them or is left out");
        Desk x = Desk.of(image().root(0, "A", 0, 2, 9).chain(2, 4).root(1, "B", 0, 3, 9));
        KIT.due("FAULT 5 ends none", x.erased(0, "B"), 0);
        KIT.due("CELLS", cells(x, 2, 4), "3 0 0 ");
        Desk y = Desk.of(image().root(0, "A", 0, 2, 9).chain(2, 3).root(1, "D", 16, 2, 0).row(4 * 64, "X", 0, 0, 0));
        KIT.due("a folder whose BLOCKS are a file's", y.erased(0, "D/X"), 0);
        KIT.due("its ROW", y.volumeByte(0, 4 * 64), 0xE5);
    }

    // ---- erase

    private static void eraseFiles() {
        KIT.says("CELLS: the ROW'S first byte is 0xE5, its CELLS are 0");
        Image m = Image.cells(20, 2, 1, 1, 0).root(0, "ABC.D", 0, 2, 70).chain(2, 3).rowMoments(192, 5, 6).fill(4 * 64, 128, 'a').root(1, "Z", 0, 4, 1).chain(4, 4);
        Desk x = Desk.of(m);
        x.tick(9000);
        KIT.due("erase", x.erased(0, "ABC.D"), 0);
        KIT.says("all else stays");
        KIT.due("all bytes", all(x), Kit.crc(m.b(192, 0xE5).cell(2, 0).cell(3, 0).a));
        KIT.due("a file without CLUSTERS", Desk.of(image().root(0, "A", 0, 0, 0)).erased(0, "A"), 0);
    }

    private static void eraseFolders() {
        KIT.says("ERASE: of a file, or a folder without living ROWS");
        Image m = image().root(0, "D", 16, 2, 0).chain(2, 3);
        KIT.due("of 0s", Desk.of(m).erased(0, "D"), 0);
        m.row(4 * 64, "\u00e5", 0, 0, 0).row(4 * 64 + 32, "\u00e5", 16, 0, 0).row(5 * 64, "\u00e5", 0, 0, 0);
        Desk x = Desk.of(m);
        KIT.due("of erased ones", x.erased(0, "D"), 0);
        KIT.due("its CELLS", cells(x, 2, 3), "0 0 ");
        m.row(5 * 64 + 32, "A", 0, 0, 0);
        long before = Kit.crc(m.a);
        Desk y = Desk.of(m);
        KIT.due("with a last one that lives", y.erased(0, "D"), -4);
        KIT.due("nothing is done", all(y), before);
        m.b(5 * 64, 0);
        KIT.due("behind one that is none", Desk.of(m).erased(0, "D"), 0);
        KIT.due("a folder without CLUSTERS", Desk.of(image().root(0, "D", 16, 0, 0)).erased(0, "D"), 0);
        Desk z = disk();
        z.foldered(0, "D");
        z.foldered(0, "D/E");
        KIT.due("with a folder", z.erased(0, "D"), -4);
        KIT.due("that folder", z.erased(0, "D/E"), 0);
        KIT.due("without it", z.erased(0, "D"), 0);
    }

    private static void eraseWhatIsNotThere() {
        KIT.says("PATH: nothing is there, or a folder with living ROWS.");
        Desk x = disk();
        KIT.due("in an empty root", x.erased(0, "A"), -4);
        x.saved(0, "A", "");
        KIT.due("another", x.erased(0, "B"), -4);
        KIT.due("a part of its NAME", x.erased(0, "A.A"), -4);
        KIT.due("in a file", x.erased(0, "A/A"), -4);
        KIT.due("in no folder", x.erased(0, "D/A"), -4);
        KIT.due("it", x.erased(0, "A"), 0);
        KIT.due("it again", x.erased(0, "A"), -4);
    }
}
