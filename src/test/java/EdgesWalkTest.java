/** Boundary cases of walking CELLS in "4 TREES", and of promises 28 to 33, each by the sentence that names it. */
public final class EdgesWalkTest {
    private static final Kit KIT = new Kit("EdgesWalk");
    private static final int MAX = Integer.MAX_VALUE, MIN = Integer.MIN_VALUE;

    public static void main(String[] args) {
        rowsInOrder();
        rowsThatAreNone();
        namesAsTheyStand();
        kindsOfRows();
        momentsAsTheyStand();
        depths();
        firstClusters();
        nextClusters();
        chainsInThemselves();
        chainsOfEarlierFiles();
        chainsOfFoldersAndTheirFiles();
        sizesOfFiles();
        sizesOfFolders();
        faultsInTheirOrder();
        tablesThatDiffer();
        owners();
        ownersTakenByACell();
        sixtyFiles();
        sixtyFilesAndAFolder();
        hundredFaults();
        findNames();
        findTheFirst();
        nameNumbers();
        fieldNumbers();
        blockNumbers();
        contentNumbers();
        slackNumbers();
        KIT.finish();
    }

    /** One TABLE, a root of two BLOCKS (2, 3), CLUSTERS 2 .. 17 in BLOCKS 4 .. 19, ZONE 0. */
    private static Image image() {
        return Image.cells(20, 1, 1, 2, 0);
    }

    // ---- ROWS

    private static void rowsInOrder() {
        KIT.says("by walking: the ROWS of the root in order (depth 0); behind each folder those of it (one deeper");
        Image m = image().root(0, "A", 0, 0, 0).root(1, "D", 16, 2, 0).root(2, "B", 0, 0, 0).root(3, "E", 16, 4, 0).chain(2, 3).chain(4, 4).chain(5, 5);
        m.row(4 * 64, "D1", 0, 0, 0).row(4 * 64 + 32, "DD", 16, 5, 0).row(5 * 64, "D3", 0, 0, 0).row(5 * 64 + 32, "D4", 0, 0, 0);
        m.row(6 * 64, "E1", 0, 0, 0).row(7 * 64, "DD1", 0, 0, 0);
        Desk x = Desk.mounted(m);
        KIT.due("names", x.names(0), "A D D1 DD DD1 D3 D4 B E E1 ");
        StringBuilder s = new StringBuilder();
        for (int f = 0; f < 10; f++) s.append(x.field(0, f, 8)).append(',').append(x.field(0, f, 6)).append(' ');
        KIT.due("depth and parent", s.toString(), "0,-1 0,-1 1,1 1,1 2,3 1,1 1,1 0,-1 0,-1 1,8 ");
    }

    private static void rowsThatAreNone() {
        KIT.says("The first byte 0: none, nor behind it in this folder; 0xE5: erased.");
        Image m = image().root(0, "A", 0, 0, 0).root(1, "\u00e5X", 0, 0, 0).root(2, "D", 16, 2, 0).root(3, "B", 0, 0, 0).chain(2, 3);
        m.row(4 * 64, "C", 0, 0, 0).row(5 * 64, "F", 0, 0, 0).row(5 * 64 + 32, "G", 0, 0, 0);
        KIT.due("in a folder, its second BLOCK, too", Desk.mounted(m).names(0), "A D C B ?X ");
        KIT.due("in the root", Desk.mounted(m.b(128 + 32, 0)).names(0), "A ");
        KIT.due("at once", Desk.mounted(m.b(128, 0)).names(0), "");
        KIT.due("0xE4 and 0xE6 live", Desk.mounted(image().root(0, "\u00e4", 0, 0, 0).root(1, "\u00e6", 0, 0, 0)).tree(0, 1), 2);
        Image full = image();
        for (int i = 0; i < 4; i++) full.root(i, "F" + i, 0, 0, 0);
        KIT.due("the root ends with its BLOCKS", Desk.mounted(full.row(4 * 64, "X", 0, 0, 0)).names(0), "F0 F1 F2 F3 ");
    }

    private static void namesAsTheyStand() {
        KIT.says("A NAME is as it stands (CELLS: both parts without the blanks behind them, a . between if the other one is not empty");
        String[][] names = {{"A       ", "   ", "A"}, {"ABCDEFGH", "IJK", "ABCDEFGH.IJK"}, {"A B     ", "C  ", "A B.C"}, {"        ", "   ", ""}, {"        ", "X  ", ".X"}, {" A      ", "  X", " A.  X"},
            {"A.B     ", "   ", "A.B"}, {"A/B     ", "./ ", "A/B../"}, {"a\0\0\0\0\0\0\0", "\0\0\0", "a\0\0\0\0\0\0\0.\0\0\0"}, {"\u00ff\1      ", "\0  ", "\u00ff\1.\0"}, {"?       ", "   ", "?"}};
        for (String[] n : names) {
            Desk x = Desk.mounted(image().text(128, n[0] + n[1]));
            KIT.due("the NAME", x.nameOf(0, 0), n[2]);
            KIT.due("behind it", x.name(0, 0, n[2].length()), -1);
        }
    }

    private static void kindsOfRows() {
        KIT.says("byte 11: 16 is in it or not");
        int[] kinds = {0, 1, 15, 16, 17, 31, 32, 48, 239, 240, 255};
        for (int kind : kinds) KIT.due("byte 11 is " + kind, Desk.mounted(image().root(0, "A", kind, 0, 0)).field(0, 0, 0), (kind & 16) != 0 ? 2 : 1);
    }

    private static void momentsAsTheyStand() {
        KIT.says("2 made, 3 altered, 4 erased as they stand there (not negative; also 0; NONE: its form tells none, 9)");
        Desk x = Desk.mounted(image().root(0, "A", 0, 0, 0).rowMoments(128, 0xFFFFFFFFL, 0x80000000L).root(1, "B", 0, 0, 0).root(2, "C", 0, 0, 0).rowMoments(192, 1, 0x01020304));
        KIT.due("the greatest", x.field(0, 0, 2), 0xFFFFFFFFL);
        KIT.due("above the greatest int", x.field(0, 0, 3), 0x80000000L);
        KIT.due("CELLS tell no erased", x.field(0, 0, 4), -1);
        KIT.due("0", x.field(0, 1, 2) + x.field(0, 1, 3), 0);
        KIT.due("1", x.field(0, 2, 2), 1);
        KIT.due("of four bytes", x.field(0, 2, 3), 0x01020304);
    }

    private static Image nested(int deepest) {
        Image m = image().root(0, "D", 16, 2, 0);
        for (int d = 0; d < deepest; d++) m.row(64 * (4 + d), "D", 16, 3 + d, 0).chain(2 + d, 2 + d);
        return m.chain(2 + deepest, 2 + deepest).row(64 * (4 + deepest), "F", 0, 0, 0);
    }

    private static void depths() {
        KIT.says("not walked, FAULT 6, is a folder of depth 5 (CELLS: that has CLUSTERS)");
        Desk x = Desk.mounted(nested(4));
        KIT.due("a folder of depth 4 is walked", x.names(0), "D D D D D F ");
        KIT.due("no FAULT", x.faults(0), "");
        KIT.due("its FILE'S depth", x.field(0, 5, 8), 5);
        Desk y = Desk.mounted(nested(5));
        KIT.due("a folder of depth 5 is not", y.names(0), "D D D D D D ");
        KIT.says("of 6 else the BLOCK of the folder's first CLUSTER");
        KIT.due("FAULT 6", y.faults(0), "6,5,9 ");
        KIT.due("it has its CLUSTER", y.owner(0, 9) + " " + y.field(0, 5, 1), "21 64");
        KIT.says("not walked, FAULT 6, is a folder of depth 5 (CELLS: that has CLUSTERS)");
        KIT.due("without CLUSTERS", Desk.mounted(nested(5).b2(8 * 64 + 26, 0)).faults(0), "");
        KIT.due("whose first CLUSTER is none", Desk.mounted(nested(5).b2(8 * 64 + 26, 18)).faults(0), "2,5,18 ");
        KIT.due("whose second CLUSTER is none", Desk.mounted(nested(5).cell(7, 18)).faults(0), "2,5,18 6,5,9 ");
    }

    // ---- chains

    private static String firstCluster(int c, int cell) {
        Desk x = Desk.mounted(image().root(0, "A", 0, c, 0).cell(2, cell).cell(17, cell));
        return x.blocksOf(0, 0) + "; " + x.faults(0);
    }

    private static void firstClusters() {
        KIT.says("Walking a CELLS chain ends before a CLUSTER that is none (FAULT 2), whose CELL is 0 or 0xFFF7 (3)");
        KIT.due("1", firstCluster(1, 0xFFFF), "; 2,0,1 ");
        KIT.due("2", firstCluster(2, 0xFFFF), "4 ; ");
        KIT.due("17, the last", firstCluster(17, 0xFFFF), "19 ; ");
        KIT.due("18, BLOCK n", firstCluster(18, 0xFFFF), "; 2,0,18 ");
        KIT.says("of 2 what stands there in its place");
        KIT.due("0xFFF7", firstCluster(0xFFF7, 0xFFFF), "; 2,0,65527 ");
        KIT.due("0xFFF8", firstCluster(0xFFF8, 0xFFFF), "; 2,0,65528 ");
        KIT.due("0xFFFF", firstCluster(0xFFFF, 0xFFFF), "; 2,0,65535 ");
        KIT.says("of 3 to 5 the BLOCK of that CLUSTER, or that BLOCK");
        KIT.due("of CELL 0", firstCluster(2, 0), "; 3,0,4 ");
        KIT.due("the last one of CELL 0", firstCluster(17, 0), "; 3,0,19 ");
        KIT.due("of CELL 0xFFF7", firstCluster(2, 0xFFF7), "; 3,0,4 ");
        KIT.says("CLUSTER 0 is an empty chain.");
        KIT.due("0", firstCluster(0, 0xFFFF), "; ");
    }

    private static String second(int cell, int next) {
        Desk x = Desk.mounted(image().root(0, "A", 0, 9, 0).cell(9, cell).cell(17, next));
        return x.blocksOf(0, 0) + "; " + x.faults(0);
    }

    private static void nextClusters() {
        KIT.says("0 free, from 0xFFF8 on the end (the maker writes 0xFFFF), 0xFFF7 unfit, else the next CLUSTER");
        KIT.due("0xFFF8", second(0xFFF8, 0), "11 ; ");
        KIT.due("0xFFFE", second(0xFFFE, 0), "11 ; ");
        KIT.due("0xFFF6", second(0xFFF6, 0), "11 ; 2,0,65526 ");
        KIT.due("1", second(1, 0), "11 ; 2,0,1 ");
        KIT.due("18", second(18, 0), "11 ; 2,0,18 ");
        KIT.due("17", second(17, 0xFFFF), "11 19 ; ");
        KIT.due("17, whose CELL is 0", second(17, 0), "11 ; 3,0,19 ");
        KIT.due("17, whose CELL is 0xFFF7", second(17, 0xFFF7), "11 ; 3,0,19 ");
        KIT.due("17, and then 18", second(17, 18), "11 19 ; 2,0,18 ");
    }

    private static void chainsInThemselves() {
        KIT.says("that stands in this chain already (4)");
        KIT.due("itself", second(9, 0), "11 ; 4,0,11 ");
        KIT.due("the first", second(17, 9), "11 19 ; 4,0,11 ");
        KIT.due("the second", second(17, 17), "11 19 ; 4,0,19 ");
        Image m = image().root(0, "A", 0, 2, 64 * 17);
        for (int c = 2; c < 17; c++) m.cell(c, c + 1);
        Desk x = Desk.mounted(m.cell(17, 2));
        KIT.due("all CLUSTERS", x.field(0, 0, 7), 16);
        KIT.due("and then the first", x.faults(0), "4,0,4 8,0,-1 ");
    }

    private static void chainsOfEarlierFiles() {
        KIT.says("or belongs to an earlier FILE (5)");
        Image m = image().root(0, "A", 0, 2, 0).chain(2, 4).root(1, "B", 0, 5, 0).cell(5, 3).root(2, "C", 0, 5, 0).root(3, "D", 0, 6, 0).chain(6, 6);
        Desk x = Desk.mounted(m);
        KIT.due("faults", x.faults(0), "5,1,5 5,2,7 ");
        KIT.due("BLOCKS", x.blocksOf(0, 0) + "; " + x.blocksOf(0, 1) + "; " + x.blocksOf(0, 2) + "; " + x.blocksOf(0, 3), "4 5 6 ; 7 ; ; 8 ");
        KIT.due("owners", x.owners(0, 4, 9), "16 16 16 17 19 ");
        Image n = image().root(0, "B", 0, 3, 0).chain(2, 4).root(1, "A", 0, 2, 0);
        KIT.due("of a later FILE they are free", Desk.mounted(n).faults(0), "5,1,5 ");
        Image e = image().root(0, "\u00e5", 0, 2, 64).root(1, "B", 0, 2, 0).chain(2, 2);
        KIT.due("an erased one is none", Desk.mounted(e).faults(0), "");
    }

    private static void chainsOfFoldersAndTheirFiles() {
        KIT.says("or belongs to an earlier FILE (5)");
        Image m = image().root(0, "D", 16, 2, 0).chain(2, 2).row(4 * 64, "D", 16, 2, 0).row(4 * 64 + 32, "F", 0, 2, 1);
        Desk x = Desk.mounted(m);
        KIT.due("names", x.names(0), "D D F ");
        KIT.due("a folder in itself, a file of its folder's CLUSTER", x.faults(0), "5,1,4 5,2,4 8,2,-1 ");
    }

    // ---- sizes

    private static String sized(long size, int clusters) {
        Image m = image().root(0, "A", 0, clusters == 0 ? 0 : 2, size);
        if (clusters > 0) m.chain(2, 1 + clusters);
        Desk x = Desk.mounted(m);
        return x.field(0, 0, 1) + " " + x.field(0, 0, 10) + " " + x.field(0, 0, 7) + " " + x.faults(0);
    }

    private static void sizesOfFiles() {
        KIT.says("A file's size beyond what its chain, or 39 places, have: FAULT 8 (last; not of folders), its end is there.");
        KIT.due("0 of none", sized(0, 0), "0 0 0 ");
        KIT.due("1 of none", sized(1, 0), "0 1 0 8,0,-1 ");
        KIT.due("0 of one", sized(0, 1), "0 0 1 ");
        KIT.due("64 of one", sized(64, 1), "64 64 1 ");
        KIT.due("65 of one", sized(65, 1), "64 65 1 8,0,-1 ");
        KIT.due("1 of two", sized(1, 2), "1 1 2 ");
        KIT.due("128 of two", sized(128, 2), "128 128 2 ");
        KIT.due("129 of two", sized(129, 2), "128 129 2 8,0,-1 ");
        KIT.due("1024 of all", sized(1024, 16), "1024 1024 16 ");
        KIT.due("1025 of all", sized(1025, 16), "1024 1025 16 8,0,-1 ");
        KIT.due("above the greatest int", sized(0x80000000L, 1), "64 2147483648 1 8,0,-1 ");
        KIT.due("the greatest", sized(0xFFFFFFFFL, 1), "64 4294967295 1 8,0,-1 ");
        KIT.due("the greatest of none", sized(0xFFFFFFFFL, 0), "0 4294967295 0 8,0,-1 ");
    }

    private static void sizesOfFolders() {
        KIT.says("The size of a folder is 64 times its CLUSTERS (CELLS)");
        Desk x = Desk.mounted(image().root(0, "D", 16, 2, 0).chain(2, 4).root(1, "E", 16, 0, 9).root(2, "F", 16, 5, 0xFFFFFFFFL).chain(5, 5));
        KIT.due("of three", x.field(0, 0, 1) + " " + x.field(0, 0, 10), "192 0");
        KIT.due("of none", x.field(0, 1, 1) + " " + x.field(0, 1, 10), "0 9");
        KIT.due("of one", x.field(0, 2, 1) + " " + x.field(0, 2, 10), "64 4294967295");
        KIT.due("no FAULT 8", x.tree(0, 4), 0);
    }

    private static void faultsInTheirOrder() {
        KIT.says("FAULTS (100 at most, in the order in which they are met)");
        Image m = Image.cells(20, 2, 1, 1, 0).cellIn(1, 2, 5).root(0, "A", 0, 1, 1).root(1, "D", 16, 2, 0).cell(2, 3).cellIn(1, 2, 5);
        m.row(4 * 64, "B", 0, 2, 9).row(4 * 64 + 32, "C", 0, 18, 0);
        Desk x = Desk.mounted(m);
        KIT.due("1 first, those of a folder before those of its FILES", x.faults(0), "1,-1,1 2,0,1 8,0,-1 3,1,5 5,2,4 8,2,-1 2,3,18 ");
        KIT.due("of each FILE", x.field(0, 0, 9) + " " + x.field(0, 1, 9) + " " + x.field(0, 2, 9) + " " + x.field(0, 3, 9), "2 1 2 1");
    }

    private static void tablesThatDiffer() {
        KIT.says("Before the walk 1: each CELL in which the TABLES differ (its BLOCK in the first one, which counts).");
        Image m = Image.cells(60, 2, 2, 1, 0);
        KIT.due("none", Desk.mounted(m).faults(0), "");
        KIT.due("CELL 0", Desk.mounted(m.cellIn(1, 0, 0)).faults(0), "1,-1,1 ");
        KIT.due("CELL 31", Desk.mounted(m.cellIn(1, 31, 1)).faults(0), "1,-1,1 1,-1,1 ");
        KIT.due("CELL 32", Desk.mounted(m.cellIn(1, 32, 256)).faults(0), "1,-1,1 1,-1,1 1,-1,2 ");
        KIT.due("CELL 55, the last CLUSTER", Desk.mounted(m.cellIn(0, 55, 9)).faults(0), "1,-1,1 1,-1,1 1,-1,2 1,-1,2 ");
        KIT.due("behind the last CLUSTER there are no CELLS", Desk.mounted(m.cellIn(0, 56, 9).cellIn(1, 63, 9)).tree(0, 4), 4);
        Desk x = Desk.mounted(Image.cells(20, 2, 1, 1, 0).root(0, "A", 0, 2, 64).cellIn(0, 2, 0xFFFF).cellIn(1, 2, 3).cellIn(1, 4, 9));
        KIT.due("the first one counts", x.faults(0) + x.blocksOf(0, 0) + x.owners(0, 4, 7), "1,-1,1 1,-1,1 4 16 0 0 ");
        KIT.due("one TABLE", Desk.mounted(Image.cells(20, 1, 2, 1, 0).b2(128, 9)).faults(0), "");
    }

    // ---- OWNER

    private static void owners() {
        KIT.says("OWNER of a BLOCK: 1 HEAD, maps, nodes, the BLOCKS of NODES' root (which has no FAULTS of its own); 2 TABLES; 3 the CELLS root");
        Desk x = Desk.mounted(Image.cells(20, 2, 2, 3, 0).b2(4, 12));
        KIT.due("owners", x.owners(0, 0, 20), "1 2 2 2 2 3 3 3 0 0 0 0 0 0 0 0 0 0 0 0 ");
        KIT.due("runs", x.runs(0), "8+12 ");
        KIT.says("16 and a FILE that has it");
        Image m = image().root(0, "A", 0, 2, 1).chain(2, 3).root(1, "D", 16, 4, 0).chain(4, 4).root(2, "\u00e5", 0, 6, 64);
        KIT.due("file, folder, and not a LOST one", Desk.mounted(m).owners(0, 4, 9), "16 16 17 0 0 ");
    }

    private static void ownersTakenByACell() {
        KIT.says("5 taken by a CELL (not 0) or the map, but by no FILE; 0 free. (Beyond n, and behind a TAPE'S end: 0.)");
        Desk x = Desk.mounted(image().b2(4, 10).cell(2, 1).cell(4, 0xFFF7).cell(5, 0xFFFF).cell(7, 0xFFF8).cell(8, 9).cell(17, 9));
        KIT.due("owners", x.owners(0, 3, 13), "3 5 0 5 5 0 5 0 0 0 ");
        Desk y = Desk.mounted(image().cell(17, 256).cell(18, 9));
        KIT.due("the last CLUSTER", y.owner(0, 19), 5);
        KIT.due("it is no FAULT", y.tree(0, 4), 0);
        Desk z = Desk.mounted(image().root(0, "A", 0, 2, 1).cell(2, 0xFFF7));
        KIT.due("what the chain ends before", z.owner(0, 4), 5);
    }

    // ---- how many

    private static Image many(int files) {
        Image m = Image.cells(40, 1, 1, 31, 0);
        for (int i = 0; i < files; i++) m.b(128 + 32 * i, 'A' + i % 26).b(128 + 32 * i + 28, 0);
        return m;
    }

    private static void sixtyFiles() {
        KIT.says("FILES are numbered from 0 on, 60 at most (others are left out in all: none of their BLOCKS, FAULTS, folders' ROWS count");
        KIT.due("59", Desk.mounted(many(59)).tree(0, 1), 59);
        KIT.due("60", Desk.mounted(many(60)).tree(0, 1), 60);
        Desk x = Desk.mounted(many(62).row(128 + 60 * 32, "D", 16, 2, 0).chain(2, 2).row(33 * 64, "X", 0, 1, 9).b(128 + 61 * 32 + 26, 1));
        KIT.due("62", x.tree(0, 1), 60);
        KIT.due("the 60th", x.name(0, 59, 0), 'A' + 59 % 26);
        KIT.due("FILE 60", x.name(0, 60, 0), -2);
        KIT.due("no FAULTS", x.tree(0, 4), 0);
        KIT.due("none has its BLOCK", x.owner(0, 33), 5);
        KIT.due("FILE 59 has it", Desk.mounted(many(60).b2(128 + 59 * 32 + 26, 2).chain(2, 2)).owner(0, 33), 16 + 59);
    }

    private static void sixtyFilesAndAFolder() {
        KIT.says("others are left out in all: none of their BLOCKS, FAULTS, folders' ROWS count");
        Image m = many(60).row(128 + 59 * 32, "D", 16, 2, 0).chain(2, 2).row(33 * 64, "X", 0, 1, 9).row(33 * 64 + 32, "\u00e5Y", 0, 0, 0);
        Desk x = Desk.mounted(m);
        KIT.due("the 60th is a folder", x.tree(0, 1) + " " + x.tree(0, 2) + " " + x.tree(0, 4), "60 1 0");
        KIT.due("what is erased in it is met", x.nameOf(0, 60) + " " + x.field(0, 60, 6), "?Y 59");
        Image n = many(61).row(128 + 60 * 32, "D", 16, 2, 0).chain(2, 2).row(33 * 64, "\u00e5Y", 0, 0, 0);
        KIT.due("what is erased in a 61st is not", Desk.mounted(n).tree(0, 2), 0);
    }

    private static void hundredFaults() {
        KIT.says("FAULTS (100 at most, in the order in which they are met)");
        Image m = Image.cells(40, 1, 1, 31, 0).fill(128, 31 * 64, 1);
        Desk x = Desk.mounted(m);
        KIT.due("of 120", x.tree(0, 4), 100);
        KIT.due("FAULT 98", x.fault(0, 98, 0) + " " + x.fault(0, 98, 1) + " " + x.fault(0, 98, 2), "2 49 257");
        KIT.due("FAULT 99", x.fault(0, 99, 0) + " " + x.fault(0, 99, 1) + " " + x.fault(0, 99, 2), "8 49 -1");
        KIT.due("FAULT 100", x.fault(0, 100, 0), -2);
        KIT.says("9 its FAULTS (also those behind the 100th)");
        KIT.due("of FILE 49", x.field(0, 49, 9), 2);
        KIT.due("of FILE 50", x.field(0, 50, 9), 2);
        KIT.due("of FILE 59", x.field(0, 59, 9), 2);
        Desk y = Desk.mounted(many(60).fill(128, 1600, 1).b2(128 + 51 * 32 + 26, 1));
        KIT.due("100, and one more", y.tree(0, 4), 100);
        KIT.due("its FILE'S", y.field(0, 51, 9), 1);
        KIT.due("another's", y.field(0, 52, 9), 0);
    }

    // ---- promises 28 to 33

    private static void findNames() {
        KIT.says("NAMES of FILES (one may be without bytes, also the only one), / between them, one in the other");
        Image m = image().root(0, "D", 16, 2, 0).chain(2, 2).root(1, "F", 0, 0, 0).root(2, "", 16, 3, 0).chain(3, 3).root(3, "G", 0, 0, 0);
        m.row(4 * 64, "F", 0, 0, 0).row(4 * 64 + 32, "", 0, 0, 0).row(5 * 64, "H", 0, 0, 0).row(5 * 64 + 32, "", 16, 0, 0);
        Desk x = Desk.mounted(m);
        KIT.due("names", x.names(0), "D F  F  H  G ");
        String[] paths = {"D", "D/F", "D/", "F", "", "/H", "/", "G", "//", "G/F", "Q/F", "Q", "H", "F/", "D/F/", "/D", "D/G", "d", "D ", "D\0", "D//F"};
        int[] due = {0, 1, 2, 3, 4, 5, 6, 7, -1, -1, -1, -1, -1, -1, -1, -1, -1, -1, -1, -1, -1};
        for (int i = 0; i < paths.length; i++) {
            KIT.due("find " + paths[i], x.found(0, paths[i]), due[i]);
            KIT.due("COLLECTED are empty", x.count(0), 0);
        }
        KIT.says("(they are empty then)");
        x.put("D");
        KIT.due("find(1)", x.find(1), -2);
        KIT.due("find(-1)", x.find(-1), -2);
        KIT.due("COLLECTED stay", x.count(0), 1);
        KIT.due("find(0)", x.find(0), 0);
        KIT.says("The living FILE that COLLECTED tell, all of them, whatever bytes and however many");
        Desk y = Desk.mounted(image().text(128, "\0").text(128, "A\0B").b(128 + 3, ' ').fill(128 + 3, 8, ' '));
        KIT.due("a byte 0", y.found(0, "A\0B"), 0);
        KIT.due("3003 bytes", y.put("A\0B" + Kit.many('/', 3000)).find(0), -1);
    }

    private static void findTheFirst() {
        KIT.says("of each NAME the first FILE of it there");
        Image m = image().root(0, "A", 0, 0, 0).root(1, "A", 16, 2, 0).chain(2, 2).root(2, "\u00e5", 0, 0, 0).row(4 * 64, "B", 0, 0, 0);
        Desk x = Desk.mounted(m);
        KIT.due("A", x.found(0, "A"), 0);
        KIT.due("A/B, whose first A is a file", x.found(0, "A/B"), -1);
        KIT.due("an erased one", x.found(0, "?"), -1);
        Desk y = Desk.mounted(image().text(128, "A/B     ").fill(136, 3, ' '));
        KIT.says("so one with a / in itself is met by no path, but of a TAPE, whose NAME is all of the path");
        KIT.due("A/B, a NAME", y.found(0, "A/B"), -1);
        Desk z = Desk.mounted(new Image(3).entry(0, "a/b", '0', 0, 0).entry(1, "c", '5', 0, 0));
        KIT.due("of a TAPE", z.found(0, "a/b") + " " + z.found(0, "a") + " " + z.found(0, "c") + " " + z.found(0, "c/"), "0 -1 1 -1");
    }

    private static Desk one() {
        return Desk.mounted(image().root(0, "AB.C", 0, 2, 66).chain(2, 3).fill(4 * 64, 66, 'x').fill(5 * 64 + 2, 61, 's').b(5 * 64 + 63, 't').root(1, "E", 0, 0, 0));
    }

    private static void nameNumbers() {
        KIT.says("Byte k of a FILE'S NAME; NONE: there is none such. BAD: no such FILE.");
        Desk x = one();
        KIT.due("0", x.name(0, 0, 0), 'A');
        KIT.due("3, the last", x.name(0, 0, 3), 'C');
        KIT.due("4", x.name(0, 0, 4), -1);
        KIT.due("-1", x.name(0, 0, -1), -1);
        KIT.due("the greatest int", x.name(0, 0, MAX), -1);
        KIT.due("the least int", x.name(0, 0, MIN), -1);
        KIT.due("FILE 2", x.name(0, 2, 0), -2);
        KIT.due("FILE -1", x.name(0, -1, 0), -2);
        KIT.due("TREE 1", x.name(1, 0, 0), -2);
        KIT.due("TREE -1", x.name(-1, 0, 0), -2);
    }

    private static void fieldNumbers() {
        KIT.says("10 the size as it stands there. BAD.");
        Desk x = one();
        KIT.due("fields", x.fields(0, 0), "1 66 0 0 -1 5 -1 2 0 0 66 ");
        KIT.due("what = -1", x.field(0, 0, -1), -2);
        KIT.due("what = 11", x.field(0, 0, 11), -2);
        KIT.due("what = the greatest int", x.field(0, 0, MAX), -2);
        KIT.due("FILE 2", x.field(0, 2, 0), -2);
        KIT.due("FILE -1", x.field(0, -1, 0), -2);
        KIT.due("the greatest FILE", x.field(0, MAX, 0), -2);
        KIT.due("TREE 1", x.field(1, 0, 0), -2);
        KIT.due("TREE -1", x.field(-1, 0, 0), -2);
    }

    private static void blockNumbers() {
        KIT.says("BLOCK k of a FILE; NONE: there is none (also of a place that has none). BAD: no such FILE.");
        Desk x = one();
        KIT.due("0", x.block(0, 0, 0), 4);
        KIT.due("1, the last", x.block(0, 0, 1), 5);
        KIT.due("2", x.block(0, 0, 2), -1);
        KIT.due("-1", x.block(0, 0, -1), -1);
        KIT.due("the greatest int", x.block(0, 0, MAX), -1);
        KIT.due("of a FILE without", x.block(0, 1, 0), -1);
        KIT.due("FILE 2", x.block(0, 2, 0), -2);
        KIT.due("FILE -1", x.block(0, -1, 0), -2);
        KIT.due("TREE 1", x.block(1, 0, 0), -2);
    }

    private static void contentNumbers() {
        KIT.says("Byte i of a FILE'S bytes, up to its end; NONE. BAD: no such FILE.");
        Desk x = one();
        KIT.due("0", x.content(0, 0, 0), 'x');
        KIT.due("63", x.content(0, 0, 63), 'x');
        KIT.due("64", x.content(0, 0, 64), 'x');
        KIT.due("65, the last", x.content(0, 0, 65), 'x');
        KIT.due("66", x.content(0, 0, 66), -1);
        KIT.due("-1", x.content(0, 0, -1), -1);
        KIT.due("the greatest int", x.content(0, 0, MAX), -1);
        KIT.due("the least int", x.content(0, 0, MIN), -1);
        KIT.due("of a FILE without", x.content(0, 1, 0), -1);
        KIT.due("FILE 2", x.content(0, 2, 0), -2);
        KIT.due("FILE -1", x.content(0, -1, 0), -2);
        KIT.due("TREE 1", x.content(1, 0, 0), -2);
    }

    private static void slackNumbers() {
        KIT.says("Byte i behind a FILE'S end in its BLOCKS");
        Desk x = one();
        KIT.due("0", x.slack(0, 0, 0), 's');
        KIT.due("61, the last", x.slack(0, 0, 61), 't');
        KIT.due("62", x.slack(0, 0, 62), -1);
        KIT.due("-1", x.slack(0, 0, -1), -1);
        KIT.due("the greatest int", x.slack(0, 0, MAX), -1);
        KIT.due("the least int", x.slack(0, 0, MIN), -1);
        KIT.due("of a FILE without", x.slack(0, 1, 0), -1);
        KIT.due("FILE 2", x.slack(0, 2, 0), -2);
        KIT.due("FILE -1", x.slack(0, -1, 0), -2);
        KIT.due("TREE 1", x.slack(1, 0, 0), -2);
        Desk y = Desk.mounted(image().root(0, "A", 0, 2, 0).chain(2, 3).b(4 * 64, 7).b(5 * 64 + 63, 8).root(1, "B", 0, 4, 64).chain(4, 4).root(2, "D", 16, 5, 0).chain(5, 5));
        KIT.due("of size 0 all its BLOCKS", y.slack(0, 0, 0) + " " + y.slack(0, 0, 127) + " " + y.slack(0, 0, 128), "7 8 -1");
        KIT.due("of whole BLOCKS none", y.slack(0, 1, 0), -1);
        KIT.due("of a folder none", y.slack(0, 2, 0), -1);
    }
}
