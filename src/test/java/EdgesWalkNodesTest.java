/** Boundary cases of walking NODES and a TAPE in "4 TREES", each by the sentence that names it. */
public final class EdgesWalkNodesTest {
    private static final Kit KIT = new Kit("EdgesWalkNodes");

    public static void main(String[] args) {
        rowsInOrder();
        rowsOfWholeSize();
        rowsOfPlaces();
        namesAsTheyStand();
        kindsAndMoments();
        nodesThatAreNone();
        depths();
        nodesWalkedBefore();
        placesThatAreNone();
        placesBehindTheSeventh();
        placesOfASize();
        sizesOfFiles();
        sizesOfFolders();
        blocksOfEarlierFiles();
        blocksOfTheSameFile();
        blocksOfTheRoot();
        faultsInTheirOrder();
        mapsThatDiffer();
        mapsBelowN();
        owners();
        sixtyFiles();
        hundredFaults();
        slackOfPlaces();
        tapeEntries();
        tapePathsThatComeAgain();
        tapeThatEnds();
        tapeFaults();
        tapeOwners();
        tapeSixtyFiles();
        tapeSlack();
        KIT.finish();
    }

    private static int nodeAt(int node) {
        return Image.nodeAt(node);
    }

    /** Thirty BLOCKS, eight nodes: DATA BLOCKS from 7 on, 7 is the root's. */
    private static Image image() {
        return Image.nodes(30, 8);
    }

    // ---- ROWS

    private static void rowsInOrder() {
        KIT.says("by walking: the ROWS of the root in order (depth 0); behind each folder those of it (one deeper");
        Image m = image().named(7, 0, 2, "a").named(7, 1, 3, "d").named(7, 2, 0, "none").named(7, 3, 4, "b");
        m.node(2, 1, 0).node(3, 2, 64, 8).node(4, 1, 0).node(5, 2, 64, 9).node(6, 1, 0).takes(8, 9);
        m.named(8, 1, 5, "dd").named(8, 3, 6, "z").named(9, 3, 2, "y");
        Desk x = Desk.mounted(m);
        KIT.due("names", x.names(0), "a d dd y z b ");
        StringBuilder s = new StringBuilder();
        for (int f = 0; f < 6; f++) s.append(x.field(0, f, 8)).append(',').append(x.field(0, f, 6)).append(' ');
        KIT.due("depth and parent", s.toString(), "0,-1 0,-1 1,1 2,2 1,1 0,-1 ");
        KIT.due("no FAULT", x.faults(0), "");
    }

    private static void rowsOfWholeSize() {
        KIT.says("Folders are files of ROWS of 16 bytes (so many as their size has whole)");
        int[] sizes = {0, 15, 16, 31, 32, 47, 48, 63, 64};
        for (int size : sizes) {
            Image m = image().node(2, 1, 0).node(3, 2, size, 8).takes(8).named(7, 0, 3, "d");
            for (int i = 0; i < 4; i++) m.named(8, i, 2, "" + i);
            Desk x = Desk.mounted(m);
            KIT.due("of size " + size, x.tree(0, 1), 1 + size / 16);
            Image r = image().node(1, 2, size, 7).node(2, 1, 0);
            for (int i = 0; i < 4; i++) r.named(7, i, 2, "" + i);
            KIT.due("of a root of size " + size, Desk.mounted(r).tree(0, 1), size / 16);
        }
    }

    private static void rowsOfPlaces() {
        KIT.says("a place whose BLOCK is none (below the DATA BLOCKS, n and more) has none (FAULT 2) and is 0s");
        Image m = image().node(1, 2, 256, 6, 8, 30, 9).takes(8, 9).node(2, 1, 0).named(8, 3, 2, "a").named(9, 0, 2, "b").named(6, 0, 2, "no");
        Desk x = Desk.mounted(m);
        KIT.due("names", x.names(0), "a b ");
        KIT.says("the BLOCKS of NODES' root (which has no FAULTS of its own)");
        KIT.due("no FAULT of the root's places", x.faults(0), "12,-1,7 ");
        Image f = image().node(1, 2, 64 * 9, 7, 8, 8, 8, 8, 8, 8).further(1, 10).takes(8, 9, 10).b2(640, 9).b2(642, 11).node(2, 1, 0).named(9, 0, 2, "z").takes(11);
        Desk y = Desk.mounted(f);
        KIT.due("behind the seventh place", y.names(0), "z ");
        KIT.due("the root's BLOCKS, and that of further ones", y.owners(0, 6, 13), "1 1 1 1 1 1 0 ");
        KIT.due("the BLOCK of further ones is none", Desk.mounted(f.further(1, 30)).tree(0, 1), 0);
        KIT.due("it is no FAULT of the root's", Desk.mounted(f).faults(0), "12,-1,9 12,-1,10 12,-1,11 ");
        Image r = image().node(1, 2, 65535, 7, 8, 8, 8, 8, 8, 8).further(1, 10).takes(8, 10).node(2, 1, 0).named(7, 0, 2, "first").named(9, 3, 2, "last").takes(9);
        for (int k = 0; k < 32; k++) r.b2(10 * 64 + 2 * k, k < 31 ? 8 : 9);
        KIT.due("of 39 places the last", Desk.mounted(r).names(0) + Desk.mounted(r).faults(0), "first last ");
        Desk z = Desk.mounted(image().node(1, 2, 448, 7, 7, 7, 7, 7, 7, 7).further(1, 12));
        KIT.due("of seven places there is none", z.owner(0, 12), 0);
        Desk w = Desk.mounted(image().node(1, 2, 449, 7, 7, 7, 7, 7, 7, 7).further(1, 12).takes(12));
        KIT.due("of eight there is", w.owner(0, 12) + " " + w.faults(0), "1 ");
    }

    private static void namesAsTheyStand() {
        KIT.says("a NAME (0s behind)");
        String[] names = {"a", "fourteen bytes", "", "\u00ff\1 /", "a\0b", "\0a", " a ", "a/b"};
        for (String name : names) {
            Desk x = Desk.mounted(image().node(2, 1, 0).named(7, 1, 2, name));
            KIT.due("the NAME", x.nameOf(0, 0), name);
            KIT.due("its last byte", x.name(0, 0, name.length() - 1), name.isEmpty() ? -1 : name.charAt(name.length() - 1));
            KIT.due("behind it", x.name(0, 0, name.length()), -1);
            KIT.due("found", x.found(0, name), name.indexOf('/') < 0 ? 0 : -1);
        }
    }

    private static void kindsAndMoments() {
        KIT.says("0 KIND (0 none, 1 file, 2 folder), 1: 1 if it is one, 2, 3 size, 4 .. 7 MADE, 8 .. 11 ALTERED, 12 .. 15 ERASED (seconds)");
        Image m = image().node(2, 1, 0x0102).moments(2, 0xFFFFFFFFL, 0x80000000L, 0x01020304).named(7, 0, 2, "a").b(nodeAt(2) + 1, 0);
        m.node(3, 2, 0).named(7, 1, 3, "b").b(nodeAt(3) + 1, 9);
        Desk x = Desk.mounted(m);
        KIT.due("a", x.field(0, 0, 0) + " " + x.field(0, 0, 10) + " " + x.field(0, 0, 2) + " " + x.field(0, 0, 3) + " " + x.field(0, 0, 4), "1 258 4294967295 2147483648 16909060");
        KIT.due("b", x.fields(0, 1), "2 0 0 0 0 5 -1 0 0 0 0 ");
        KIT.due("its bit does not matter", Desk.mounted(m.b(64, 0)).tree(0, 1), 2);
    }

    private static void nodesThatAreNone() {
        KIT.says("a ROW whose node is none (above m, KIND not 1, 2): FAULT 7 (FILE NONE), no FILE");
        Image m = image().node(8, 1, 0).node(2, 0, 0).node(3, 3, 0).node(4, 255, 0);
        int[][] nodes = {{8, 0}, {9, 1}, {2, 1}, {3, 1}, {4, 1}, {5, 1}, {256, 1}, {0x0108, 1}, {65535, 1}, {0, 2}};
        for (int[] n : nodes) {
            Desk x = Desk.mounted(m.named(7, 2, n[0], "a"));
            KIT.due("FILES of node " + n[0], x.tree(0, 1), n[1] == 0 ? 1 : 0);
            KIT.due("FAULTS of node " + n[0], x.faults(0), n[1] == 1 ? "7,-1," + n[0] + " " : "");
        }
        KIT.due("node 0, whatever stands before node 1", Desk.mounted(image().b(160, 1).named(7, 2, 0, "a")).tree(0, 1), 0);
        Desk y = Desk.mounted(Image.nodes(40, 64).node(64, 2, 64, 36).takes(36).named(35, 0, 64, "d").named(36, 0, 64, "e").named(36, 1, 65, "f"));
        KIT.due("node 64 of 64", y.names(0) + y.faults(0), "d e 5,1,36 6,1,64 7,-1,65 ");
    }

    // ---- folders

    private static Image nested(int deepest) {
        Image m = Image.nodes(30, 16).named(11, 0, 2, "d");
        for (int d = 0; d < deepest; d++) m.node(2 + d, 2, 64, 12 + d).takes(12 + d).named(12 + d, 0, 3 + d, "d");
        return m.node(2 + deepest, 2, 64, 12 + deepest).takes(12 + deepest).node(9, 1, 0).named(12 + deepest, 0, 9, "f");
    }

    private static void depths() {
        KIT.says("not walked, FAULT 6, is a folder of depth 5");
        Desk x = Desk.mounted(nested(4));
        KIT.due("of depth 4 it is walked", x.names(0) + x.faults(0), "d d d d d f ");
        Desk y = Desk.mounted(nested(5));
        KIT.says("of NODES' 6 and 7 the node");
        KIT.due("of depth 5 it is not", y.names(0) + y.faults(0), "d d d d d d 6,5,7 ");
        KIT.due("it has its BLOCK", y.owner(0, 17), 21);
        KIT.says("(CELLS: that has CLUSTERS)");
        KIT.due("without places, too", Desk.mounted(nested(5).b2(nodeAt(7) + 2, 0)).faults(0), "6,5,7 12,-1,17 ");
    }

    private static void nodesWalkedBefore() {
        KIT.says("and of NODES one whose node was walked before, or is the root's");
        Image m = image().named(7, 0, 2, "d").named(7, 1, 2, "e").named(7, 2, 1, "r").named(7, 3, 3, "g").node(2, 2, 64, 8).node(3, 1, 0).takes(8).named(8, 0, 3, "f").named(8, 1, 2, "d").named(8, 2, 1, "r");
        Desk x = Desk.mounted(m);
        KIT.due("names", x.names(0), "d f d r e r g ");
        KIT.due("in itself, the root in it, again, the root", x.faults(0), "5,2,8 6,2,2 6,3,1 5,4,8 6,4,2 6,5,1 ");
        KIT.due("a file twice is none", x.field(0, 6, 9), 0);
        Image n = nested(5).named(11, 1, 7, "again");
        Desk y = Desk.mounted(n);
        KIT.due("one that was met, but not walked", y.names(0), "d d d d d d again f ");
        KIT.due("is walked", y.faults(0), "6,5,7 5,6,17 ");
    }

    // ---- places

    private static void placesThatAreNone() {
        KIT.says("a place whose BLOCK is none (below the DATA BLOCKS, n and more) has none (FAULT 2) and is 0s");
        Image m = image().b2(4, 28).named(7, 0, 2, "a").node(2, 1, 448, 6, 8, 28, 0, 27, 65535, 1).takes(8, 27).fill(8 * 64, 64, 'x').fill(6 * 64, 64, 'y').fill(28 * 64, 64, 'z');
        Desk x = Desk.mounted(m);
        KIT.says("of 2 what stands there in its place");
        KIT.due("faults", x.faults(0), "2,0,6 2,0,28 2,0,0 2,0,65535 2,0,1 ");
        KIT.due("places", x.blocksOf(0, 0), "-1 8 -1 -1 27 -1 -1 ");
        KIT.due("0s", x.content(0, 0, 0) + " " + x.content(0, 0, 64) + " " + x.content(0, 0, 128) + " " + x.content(0, 0, 447), "0 120 0 0");
        KIT.due("how many places", x.field(0, 0, 7), 7);
        KIT.due("words", x.worded(0, "x\0") + " " + x.hit(0, 0) + " " + x.hit(0, 1), "2 0 127");
        KIT.due("none of the others", x.worded(0, "zz") + " " + x.hit(0, 0), "63 -1");
    }

    private static void placesBehindTheSeventh() {
        KIT.says("likewise all places behind the seventh if the BLOCK of further ones is none (one FAULT 2)");
        Image m = image().b2(4, 28).named(7, 0, 2, "a").node(2, 1, 64 * 10, 8, 8, 8, 8, 8, 8, 8).takes(8);
        int[] further = {0, 6, 28, 65535};
        for (int f : further) {
            Desk x = Desk.mounted(m.further(2, f).b2(6 * 64, 9).b2(28 * 64, 9));
            KIT.due("faults, " + f, x.faults(0), "2,0," + f + " ");
            KIT.due("places, " + f, x.blocksOf(0, 0), "8 8 8 8 8 8 8 -1 -1 -1 ");
            KIT.due("0s, " + f, x.content(0, 0, 64 * 10 - 1), 0);
        }
        Desk y = Desk.mounted(m.further(2, 27).takes(27).b2(27 * 64, 9).takes(9).b2(27 * 64 + 2, 28).b2(27 * 64 + 4, 6));
        KIT.due("the last BLOCK, and places that are none", y.faults(0), "2,0,28 2,0,6 ");
        KIT.due("it is the FILE'S", y.owner(0, 27) + " " + y.blocksOf(0, 0), "16 8 8 8 8 8 8 8 9 -1 -1 ");
        Image d = image().node(1, 2, 64, 9).takes(9).named(9, 0, 2, "a").node(2, 1, 512, 8, 8, 8, 8, 8, 8, 8).further(2, 7).b2(7 * 64, 10).takes(8, 10);
        KIT.due("the first DATA BLOCK", Desk.mounted(d).faults(0) + Desk.mounted(d).block(0, 0, 7), "10");
        Desk z = Desk.mounted(m.further(2, 6).b2(nodeAt(2) + 2, 448));
        KIT.due("seven places need none", z.faults(0), "12,-1,9 12,-1,27 ");
        Desk w = Desk.mounted(m.b2(nodeAt(2) + 2, 449));
        KIT.due("the eighth does", w.faults(0), "2,0,6 12,-1,9 12,-1,27 ");
    }

    private static void placesOfASize() {
        KIT.says("A node has as many places as its size needs (39 at most).");
        int[][] sizes = {{0, 0}, {1, 1}, {64, 1}, {65, 2}, {448, 7}, {449, 8}, {2432, 38}, {2433, 39}, {2496, 39}, {2497, 39}, {65535, 39}};
        Image m = image().named(7, 0, 2, "a").node(2, 1, 0, 8, 8, 8, 8, 8, 8, 8).further(2, 9).takes(8, 9);
        for (int k = 0; k < 32; k++) m.b2(9 * 64 + 2 * k, 8);
        for (int[] s : sizes) {
            Desk x = Desk.mounted(m.b2(nodeAt(2) + 2, s[0]));
            KIT.due("places of " + s[0], x.field(0, 0, 7), s[1]);
            KIT.due("the last of " + s[0], x.block(0, 0, s[1] - 1), s[1] == 0 ? -1 : 8);
            KIT.due("behind it of " + s[0], x.block(0, 0, s[1]), -1);
        }
    }

    private static void sizesOfFiles() {
        KIT.says("A file's size beyond what its chain, or 39 places, have: FAULT 8 (last; not of folders), its end is there.");
        Image m = image().named(7, 0, 2, "a").node(2, 1, 0, 8, 8, 8, 8, 8, 8, 8).further(2, 9).takes(8, 9);
        for (int k = 0; k < 32; k++) m.b2(9 * 64 + 2 * k, 8);
        int[][] sizes = {{2495, 2495, 0}, {2496, 2496, 0}, {2497, 2496, 1}, {65535, 2496, 1}};
        for (int[] s : sizes) {
            Desk x = Desk.mounted(m.b2(nodeAt(2) + 2, s[0]));
            KIT.due("of " + s[0], x.field(0, 0, 1) + " " + x.field(0, 0, 10) + " " + x.faults(0), s[1] + " " + s[0] + " " + (s[2] == 1 ? "8,0,-1 " : ""));
        }
        Desk y = Desk.mounted(m.b2(9 * 64 + 62, 0));
        KIT.due("last", y.faults(0), "2,0,0 8,0,-1 ");
        KIT.due("places without BLOCKS are none", Desk.mounted(image().named(7, 0, 2, "a").node(2, 1, 65)).faults(0), "2,0,0 2,0,0 ");
    }

    private static void sizesOfFolders() {
        KIT.says("or as told, its end being at 39 places at most (NODES)");
        Image m = image().named(7, 0, 2, "d").node(2, 2, 0, 8, 8, 8, 8, 8, 8, 8).further(2, 9).takes(8, 9);
        for (int k = 0; k < 32; k++) m.b2(9 * 64 + 2 * k, 8);
        int[][] sizes = {{0, 0}, {1, 1}, {63, 63}, {2496, 2496}, {2497, 2496}, {65535, 2496}};
        for (int[] s : sizes) {
            Desk x = Desk.mounted(m.b2(nodeAt(2) + 2, s[0]));
            KIT.due("of " + s[0], x.field(0, 0, 1) + " " + x.field(0, 0, 10) + " " + x.field(0, 0, 9), s[1] + " " + s[0] + " 0");
            KIT.due("its last byte of " + s[0], x.content(0, 0, s[1]), -1);
        }
    }

    private static void blocksOfEarlierFiles() {
        KIT.says("a BLOCK whose OWNER is an earlier FILE (those of the root stay the root's: none) is used, too (FAULT 5, by places, the BLOCK of further ones before the eighth)");
        Image m = image().named(7, 0, 2, "a").named(7, 1, 3, "b").node(2, 1, 512, 8, 9, 10, 11, 12, 13, 14).further(2, 15).b2(15 * 64, 16).node(3, 1, 576, 14, 20, 21, 22, 23, 24, 8).further(3, 15);
        m.takes(8, 9, 10, 11, 12, 13, 14, 15, 16, 20, 21, 22, 23, 24).b2(15 * 64 + 2, 3).fill(14 * 64, 64, 'x');
        Desk x = Desk.mounted(m);
        KIT.due("by places", x.faults(0), "5,1,14 5,1,8 5,1,15 5,1,16 2,1,3 ");
        KIT.due("is used, too", x.blocksOf(0, 1) + x.content(0, 1, 0), "14 20 21 22 23 24 8 16 -1 120");
        KIT.due("the OWNER stays the first", x.owners(0, 14, 17), "16 16 16 ");
        KIT.due("of the FILES", x.field(0, 0, 9) + " " + x.field(0, 1, 9), "0 5");
    }

    private static void blocksOfTheSameFile() {
        KIT.says("a BLOCK whose OWNER is an earlier FILE");
        Image m = image().named(7, 0, 2, "a").node(2, 1, 512, 8, 9, 8, 9, 9, 9, 8).further(2, 8).takes(8, 9).b2(8 * 64, 8);
        Desk x = Desk.mounted(m);
        KIT.due("its own are none", x.faults(0), "");
        KIT.due("places", x.blocksOf(0, 0), "8 9 8 9 9 9 8 8 ");
        Image o = image().named(7, 0, 3, "a").named(7, 1, 2, "b").node(3, 1, 0).node(2, 1, 512, 8, 9, 8, 9, 9, 9, 8).further(2, 8).takes(8, 9).b2(8 * 64, 8);
        KIT.due("of FILE 1, too", Desk.mounted(o).faults(0) + Desk.mounted(o).owners(0, 8, 10), "17 17 ");
        Image n = m.named(7, 1, 3, "b").node(3, 1, 128, 8, 8);
        KIT.due("twice of an earlier one", Desk.mounted(n).faults(0), "5,1,8 5,1,8 ");
    }

    private static void blocksOfTheRoot() {
        KIT.says("(those of the root stay the root's: none)");
        Image m = image().node(1, 2, 128, 7, 8).takes(8).named(7, 0, 2, "a").named(7, 1, 1, "r").node(2, 1, 192, 7, 8, 9).takes(9);
        Desk x = Desk.mounted(m);
        KIT.due("no FAULT 5", x.faults(0), "6,1,1 ");
        KIT.due("owners", x.owners(0, 7, 10), "1 1 16 ");
        KIT.due("they are used", x.blocksOf(0, 0) + x.content(0, 0, 2), "7 8 9 97");
    }

    private static void faultsInTheirOrder() {
        KIT.says("FAULTS (100 at most, in the order in which they are met)");
        Image m = image().named(7, 0, 9, "x").named(7, 1, 2, "d").named(7, 2, 3, "f").named(7, 3, 99, "y").node(2, 2, 128, 8, 6).node(3, 1, 3000, 8).takes(8, 20).named(8, 0, 77, "z").named(8, 1, 2, "d");
        StringBuilder s = new StringBuilder("7,-1,9 2,0,6 7,-1,77 5,1,8 2,1,6 6,1,2 5,2,8 ");
        for (int k = 1; k < 7; k++) s.append("2,2,0 ");
        s.append("2,2,0 8,2,-1 7,-1,99 12,-1,20 ");
        KIT.due("faults", Desk.mounted(m).faults(0), s.toString());
    }

    // ---- maps, owners

    private static void mapsThatDiffer() {
        KIT.says("Behind it, NODES: 11 a BLOCK with an OWNER that the map has not (the FILE, if it is one's); 12 one that the map has and none owns; by BLOCKS.");
        Image m = image().named(7, 0, 2, "a").node(2, 1, 512, 8, 9, 10, 11, 12, 13, 14).further(2, 15).b2(15 * 64, 29).fill(128, 4, 0);
        for (int b = 1; b < 14; b++) if (b != 5 && b != 7) m.takes(b);
        m.takes(16, 28);
        Desk x = Desk.mounted(m);
        KIT.due("the first, nodes', the root's, places', the further ones', the last", x.faults(0), "11,-1,0 11,-1,5 11,-1,7 11,0,14 11,0,15 12,-1,16 12,-1,28 11,0,29 ");
        KIT.due("of the FILE", x.field(0, 0, 9), 3);
        KIT.due("owners", x.owners(0, 0, 8) + x.owners(0, 13, 18) + x.owners(0, 27, 30), "1 1 1 1 1 1 1 1 16 16 16 5 0 0 5 16 ");
    }

    private static void mapsBelowN() {
        KIT.says("(Beyond n, and behind a TAPE'S end: 0.)");
        Image m = image().b2(4, 20).takes(19, 20, 29).b(128 + 32, 255);
        Desk x = Desk.mounted(m);
        KIT.due("the last below n", x.faults(0), "12,-1,19 ");
        KIT.due("owners", x.owners(0, 18, 22) + x.owner(0, 29), "0 5 0 0 0");
        KIT.due("runs", x.runs(0), "8+11 20+10 ");
    }

    private static void owners() {
        KIT.says("OWNER of a BLOCK: 1 HEAD, maps, nodes, the BLOCKS of NODES' root");
        Desk x = Desk.mounted(Image.nodes(40, 64));
        KIT.due("up to the last node's BLOCK, and the root's", x.owner(0, 0) + " " + x.owner(0, 1) + " " + x.owner(0, 2) + " " + x.owner(0, 3) + " " + x.owner(0, 34) + " " + x.owner(0, 35) + " " + x.owner(0, 36), "1 1 1 1 1 1 0");
        KIT.due("of two nodes", Desk.mounted(Image.nodes(9, 2)).owners(0, 0, 9), "1 1 1 1 1 0 0 0 0 ");
        KIT.says("The BLOCK of further ones is the FILE'S, too.");
        Desk y = Desk.mounted(image().named(7, 0, 2, "a").node(2, 1, 449, 8, 8, 8, 8, 8, 8, 8).further(2, 9).b2(9 * 64, 10).takes(8, 9, 10));
        KIT.due("owners", y.owners(0, 8, 12) + y.faults(0), "16 16 16 0 ");
        Desk z = Desk.mounted(image().node(2, 1, 64, 8).takes(8));
        KIT.due("a node in no folder has none", z.owner(0, 8) + z.faults(0), "512,-1,8 ");
    }

    // ---- how many

    private static void sixtyFiles() {
        KIT.says("FILES are numbered from 0 on, 60 at most (others are left out in all: none of their BLOCKS, FAULTS, folders' ROWS count; a FAULT 7, and a TAPE'S 9, 10, are told all the same)");
        Image m = Image.nodes(40, 8).node(1, 2, 16 * 64, 7, 7, 7, 7, 7, 7, 7).further(1, 8).takes(8);
        for (int k = 0; k < 9; k++) m.b2(8 * 64 + 2 * k, k < 8 ? 7 : 9);
        for (int i = 0; i < 4; i++) m.named(7, i, 2, "f" + i);
        m.node(2, 1, 0).takes(9);
        KIT.due("60", Desk.mounted(m.b2(nodeAt(1) + 2, 15 * 64)).tree(0, 1), 60);
        m.node(3, 1, 64, 10).named(9, 0, 3, "g").node(4, 2, 64, 11).named(9, 1, 4, "d").named(11, 0, 99, "x").takes(10, 11);
        m.named(9, 2, 9, "y").named(9, 3, 2, "z");
        Desk x = Desk.mounted(m.b2(nodeAt(1) + 2, 16 * 64));
        KIT.due("of 63", x.tree(0, 1), 60);
        KIT.due("FAULT 7, but none of the folder; BLOCKS that none owns", x.faults(0), "7,-1,9 12,-1,10 12,-1,11 ");
        Desk y = Desk.mounted(m.b2(nodeAt(1) + 2, 14 * 64 + 48).b2(8 * 64 + 14, 7));
        KIT.due("59", y.tree(0, 1), 59);
        Desk z = Desk.mounted(m.b2(nodeAt(1) + 2, 16 * 64).named(7, 0, 0, "").b2(8 * 64 + 14, 9).b2(8 * 64 + 16, 9));
        KIT.due("fewer in each", z.tree(0, 1), 14 * 3 + 2 * 3);
    }

    private static void hundredFaults() {
        KIT.says("FAULTS (100 at most, in the order in which they are met)");
        Image m = image().node(1, 2, 64 * 39, 7, 7, 7, 7, 7, 7, 7).further(1, 8).takes(8);
        for (int k = 0; k < 32; k++) m.b2(8 * 64 + 2 * k, 7);
        for (int i = 0; i < 4; i++) m.named(7, i, i == 0 ? 0 : 100 + i, "x");
        Desk x = Desk.mounted(m);
        KIT.due("of 117", x.tree(0, 4), 100);
        KIT.due("the last", x.fault(0, 99, 0) + " " + x.fault(0, 99, 1) + " " + x.fault(0, 99, 2), "7 -1 101");
        KIT.due("behind it", x.fault(0, 100, 2), -2);
        KIT.says("9 its FAULTS (also those behind the 100th)");
        Image n = m.b2(nodeAt(1) + 2, 64 * 33 + 64).named(7, 0, 2, "a").node(2, 1, 64, 9).b2(8 * 64 + 2 * 26, 7);
        Desk y = Desk.mounted(n);
        KIT.due("of a node met 34 times", y.tree(0, 1) + " " + y.tree(0, 4), "34 100");
        KIT.due("one is behind the 100th: FAULT 11", y.field(0, 0, 9) + " " + y.field(0, 1, 9) + " " + y.field(0, 33, 9), "1 1 1");
    }

    private static void slackOfPlaces() {
        KIT.says("of NODES in its places: one without a BLOCK is 0s there, too, also of a LOST one, its places as they stand");
        Image m = image().named(7, 0, 2, "a").node(2, 1, 65, 8, 0).takes(8).fill(8 * 64, 64, 'x').named(7, 1, 3, "b").node(3, 1, 1, 9).takes(9).fill(9 * 64, 64, 'y');
        Desk x = Desk.mounted(m);
        KIT.due("of a place without", x.slack(0, 0, 0) + " " + x.slack(0, 0, 62) + " " + x.slack(0, 0, 63), "0 0 -1");
        KIT.due("of a place with", x.slack(0, 1, 0) + " " + x.slack(0, 1, 62) + " " + x.slack(0, 1, 63), "121 121 -1");
        Image f = image().named(7, 0, 2, "d").node(2, 2, 48, 8).takes(8).fill(8 * 64 + 48, 16, 'z').node(3, 1, 0);
        KIT.due("of a folder", Desk.mounted(f).slack(0, 0, 15), 'z');
        Image l = image().node(5, 0, 65, 8, 6).moments(5, 0, 0, 9).fill(8 * 64, 64, 'x').fill(6 * 64, 64, 'n').node(6, 0, 1, 9).moments(6, 0, 0, 9).fill(9 * 64, 64, 'y');
        Desk y = Desk.mounted(l);
        KIT.due("of LOST ones", y.slack(0, 0, 0) + " " + y.slack(0, 0, 62) + " " + y.slack(0, 0, 63) + " " + y.slack(0, 1, 0) + " " + y.slack(0, 1, 63), "0 0 -1 121 -1");
    }

    // ---- TAPE

    private static void tapeEntries() {
        KIT.says("TAPE: each entry is a FILE (folders too), by the order, if its path does not come again later (5); the NAME is the path, depth 0");
        Image m = new Image(12).entry(0, "d", '5', 0, 1).entry(1, "d/a", '0', 65, 2).entry(4, "b", '0', 64, 3).entry(6, "c", '0', 0, 4).entry(7, "", '5', 9, 5).entry(8, "123456789012345678901234", '0', 1, 6);
        Desk x = Desk.mounted(m);
        KIT.due("names", x.names(0), "d d/a b c  123456789012345678901234 ");
        KIT.due("d", x.fields(0, 0), "2 0 -1 1 -1 5 -1 0 0 0 0 ");
        KIT.due("d/a", x.fields(0, 1), "1 65 -1 2 -1 5 -1 2 0 0 65 ");
        KIT.due("b", x.fields(0, 2), "1 64 -1 3 -1 5 -1 1 0 0 64 ");
        KIT.due("c", x.fields(0, 3), "1 0 -1 4 -1 5 -1 0 0 0 0 ");
        KIT.says("or 0 (TAPE)");
        KIT.due("a folder whose size is 9", x.fields(0, 4), "2 0 -1 5 -1 5 -1 0 0 0 9 ");
        KIT.due("of 24 bytes", x.name(0, 5, 23) + " " + x.name(0, 5, 24), "52 -1");
        KIT.due("BLOCKS", x.blocksOf(0, 1) + x.blocksOf(0, 2) + x.blocksOf(0, 5), "2 3 5 9 ");
        KIT.due("a NAME without bytes is found", x.found(0, ""), 4);
        KIT.due("a byte 0 in a path stays", Desk.mounted(new Image(2).entry(0, "a\0b", '0', 0, 0)).nameOf(0, 0), "a\0b");
    }

    private static void tapePathsThatComeAgain() {
        KIT.says("if its path does not come again later (5)");
        Image m = new Image(12).entry(0, "123456789012345678901234", '0', 0, 1).entry(1, "123456789012345678901235", '0', 0, 2).entry(2, "a", '0', 0, 3).entry(3, "a\0b", '0', 0, 4).entry(4, "b", '5', 0, 5).entry(5, "b", '0', 0, 6);
        Desk x = Desk.mounted(m);
        KIT.due("another last byte, a byte behind a 0, another KIND", x.tree(0, 1) + " " + x.tree(0, 2), "5 1");
        KIT.due("the LOST one", x.field(0, 5, 0) + " " + x.field(0, 5, 3), "2 5");
        Desk y = Desk.mounted(new Image(5).entry(0, "a", '0', 0, 1).entry(1, "a", '0', 0, 2).entry(2, "a", '0', 0, 3));
        KIT.due("of three the last lives", y.field(0, 0, 3) + " " + y.field(0, 1, 3) + " " + y.field(0, 2, 3), "3 1 2");
    }

    private static void tapeThatEnds() {
        KIT.says("They end with a BLOCK of 0s or the VOLUME.");
        Image m = new Image(4).entry(0, "a", '0', 64, 0).entry(2, "b", '5', 0, 0).entry(3, "c", '0', 0, 0);
        KIT.due("with the VOLUME", Desk.mounted(m).names(0) + Desk.mounted(m).faults(0), "a b c ");
        Image n = new Image(5).entry(0, "a", '0', 64, 0).entry(3, "b", '5', 0, 0);
        Desk x = Desk.mounted(n);
        KIT.due("with a BLOCK of 0s, whatever is behind it", x.names(0) + x.faults(0) + x.owners(0, 0, 5), "a 4 16 0 0 0 ");
        KIT.due("at once", Desk.mounted(new Image(3).entry(1, "a", '0', 0, 0)).tree(0, 1), 0);
        Image f = new Image(3).entry(0, "a", '0', 128, 0);
        KIT.due("a file to the VOLUME'S end", Desk.mounted(f).faults(0), "");
    }

    private static void tapeFaults() {
        KIT.says("the walk ends with FAULT 9 (FILE NONE) at a BLOCK that is no HEADER and not all 0, with FAULT 10 where a file goes beyond the VOLUME (it has what is there; FILE NONE, its HEADER)");
        Desk x = Desk.mounted(new Image(5).entry(0, "a", '0', 1, 0).b(128 + 63, 1).entry(3, "b", '0', 0, 0));
        KIT.due("FAULT 9", x.faults(0) + x.names(0) + x.owners(0, 0, 5), "9,-1,2 a 4 16 0 0 0 ");
        Desk y = Desk.mounted(new Image(5).entry(0, "a", '5', 0, 0).entry(1, "b", '0', 193, 0).fill(128, 192, 'x'));
        KIT.due("FAULT 10", y.faults(0) + y.owners(0, 0, 5), "10,-1,1 4 4 17 17 17 ");
        KIT.due("it has what is there", y.fields(0, 1), "1 192 -1 0 -1 5 -1 3 0 0 193 ");
        KIT.due("its last byte", y.content(0, 1, 191) + " " + y.content(0, 1, 192) + " " + y.slack(0, 1, 0), "120 -1 -1");
        Desk z = Desk.mounted(new Image(1).entry(0, "a", '0', 1, 0));
        KIT.due("nothing is there", z.faults(0) + z.fields(0, 0), "10,-1,0 1 0 -1 0 -1 5 -1 0 0 0 1 ");
        Desk w = Desk.mounted(new Image(3).entry(0, "a", '0', 07777777, 0));
        KIT.due("of the greatest size", w.faults(0) + w.fields(0, 0), "10,-1,0 1 128 -1 0 -1 5 -1 2 0 0 2097151 ");
        Desk v = Desk.mounted(new Image(3).entry(0, "a", '0', 64, 0).entry(2, "b", '0', 0, 0).b(128 + 50, '8'));
        KIT.due("a HEADER whose SUM is wrong", v.faults(0), "9,-1,2 ");
    }

    private static void tapeOwners() {
        KIT.says("4 a HEADER (also of an entry that is left out behind the 60th FILE, or the 40th LOST one; its BLOCKS are 0, and CUT OUT looks at them)");
        Image m = new Image(9).entry(0, "a", '0', 65, 0).entry(3, "a", '0', 1, 0).entry(5, "b", '5', 0, 0);
        Desk x = Desk.mounted(m);
        KIT.says("16 and a FILE that has it, also a LOST one of a TAPE");
        KIT.due("owners", x.owners(0, 0, 9), "4 18 18 4 16 4 0 0 0 ");
        KIT.due("the LOST one", x.tree(0, 2) + " " + x.blocksOf(0, 2), "1 1 2 ");
    }

    /** A TAPE full of folders. */
    private static Image tape(int entries) {
        Image m = new Image(entries);
        for (int i = 0; i < entries; i++) m.entry(i, "" + i, '5', 0, 0);
        return m;
    }

    private static void tapeSixtyFiles() {
        KIT.says("also of an entry that is left out behind the 60th FILE, or the 40th LOST one; its BLOCKS are 0, and CUT OUT looks at them");
        Desk y = new Desk();
        y.add(tape(50));
        y.blank(20);
        y.volume(1, 0, 20);
        y.join(1, 0, 1, -1);
        for (int i = 50; i < 60; i++) y.foldered(2, "" + i);
        KIT.due("the 61st", y.saved(2, "q", "x"), 1);
        KIT.due("the 62nd", y.foldered(2, "r"), 0);
        y.mount(2);
        KIT.due("60 FILES", y.tree(0, 1) + " " + y.nameOf(0, 59) + " " + y.field(0, 60, 0), "60 59 -2");
        KIT.due("HEADERS, and a BLOCK that is left out", y.owners(0, 59, 64), "4 4 0 4 0 ");
        KIT.due("no FAULT", y.tree(0, 4), 0);
        y.poke(1, 64 * 13, 1);
        y.mount(2);
        KIT.says("a FAULT 7, and a TAPE'S 9, 10, are told all the same");
        KIT.due("FAULT 9", y.faults(1), "9,-1,63 ");
    }

    private static void tapeSlack() {
        KIT.says("Byte i behind a FILE'S end in its BLOCKS");
        Desk x = Desk.mounted(new Image(4).entry(0, "a", '0', 65, 0).fill(64, 128, 'x').entry(3, "d", '5', 70, 0));
        KIT.due("of 65", x.slack(0, 0, 0) + " " + x.slack(0, 0, 62) + " " + x.slack(0, 0, 63), "120 120 -1");
        KIT.due("of a folder", x.slack(0, 1, 0), -1);
    }
}
