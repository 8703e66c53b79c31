/** Boundary cases of "5 LOST FILES" and what is CUT OUT, each by the sentence that names it. */
public final class EdgesLostTest {
    private static final Kit KIT = new Kit("EdgesLost");

    public static void main(String[] args) {
        cellsFirstBytes();
        cellsNoFolders();
        cellsSizes();
        cellsFirstClusters();
        cellsRising();
        cellsGrades();
        cellsInFolders();
        cellsForty();
        nodesErasedAbove0();
        nodesNames();
        nodesPlaces();
        nodesGrade4();
        nodesErasedLater();
        nodesOtherSuchNodes();
        nodesForty();
        tapeEntries();
        tapeForty();
        livingAreGrade5();
        cutFromItsFirstByte();
        cutInItsRun();
        cutNotLookedAtAgain();
        cutWhole();
        cutOfAnySize();
        cutNames();
        cutTwenty();
        cutBeyondN();
        KIT.finish();
    }

    private static int nodeAt(int node) {
        return Image.nodeAt(node);
    }

    /** One TABLE, a root of two BLOCKS (2, 3), CLUSTERS 2 .. 17 in BLOCKS 4 .. 19. */
    private static Image cells() {
        return Image.cells(20, 1, 1, 2, 0);
    }

    private static Image nodes() {
        return Image.nodes(30, 8);
    }

    // ---- CELLS

    private static void cellsFirstBytes() {
        KIT.says("CELLS: erased ROWS of walked folders, in the order met (the first byte of the NAME is told as '?'");
        Desk x = Desk.mounted(cells().root(0, "\u00e5", 0, 0, 0).root(1, "\u00e5BCDEFGH.IJK", 0, 0, 0).root(2, "A", 0, 0, 0).root(3, "\u00e5.X", 0, 0, 0));
        KIT.due("names", x.names(0), "A ? ?BCDEFGH.IJK ?.X ");
        KIT.due("tree", x.tree(0, 1) + " " + x.tree(0, 2), "1 3");
        KIT.due("fields", x.fields(0, 1), "1 0 0 0 -1 3 -1 0 0 0 0 ");
        KIT.due("moments as they stand", Desk.mounted(cells().root(0, "\u00e5", 0, 0, 0).rowMoments(128, 0xFFFFFFFFL, 1)).fields(0, 0), "1 0 4294967295 1 -1 3 -1 0 0 0 0 ");
        KIT.due("behind one that is none", Desk.mounted(cells().root(1, "\u00e5", 0, 0, 0)).tree(0, 2), 0);
    }

    private static void cellsNoFolders() {
        KIT.says("not of folders; depth and parent as there");
        int[] kinds = {0, 1, 15, 32, 239, 16, 17, 48, 255};
        for (int kind : kinds) KIT.due("byte 11 is " + kind, Desk.mounted(cells().root(0, "\u00e5", kind, 0, 0)).tree(0, 2), (kind & 16) != 0 ? 0 : 1);
        Desk x = Desk.mounted(cells().root(0, "\u00e5D", 16, 2, 0).row(4 * 64, "\u00e5", 0, 0, 0));
        KIT.due("an erased folder is not walked", x.tree(0, 2), 0);
    }

    private static String lost(long size, int first, int... taken) {
        Image m = cells().root(0, "\u00e5", 0, first, size);
        for (int c : taken) m.cell(c, 0xFFFF);
        Desk x = Desk.mounted(m);
        return x.field(0, 0, 5) + " " + x.field(0, 0, 1) + ": " + x.blocksOf(0, 0);
    }

    private static void cellsSizes() {
        KIT.says("its CLUSTERS (of size 0 none)");
        KIT.due("0", lost(0, 2), "3 0: ");
        KIT.due("0, whose first CLUSTER is taken", lost(0, 2, 2), "3 0: ");
        KIT.due("0, whose first CLUSTER is none", lost(0, 99), "3 0: ");
        KIT.says("as many as its size needs");
        KIT.due("1", lost(1, 2), "3 1: 4 ");
        KIT.due("64", lost(64, 2), "3 64: 4 ");
        KIT.due("65", lost(65, 2), "3 65: 4 5 ");
        KIT.due("all", lost(1024, 2), "3 1024: 4 5 6 7 8 9 10 11 12 13 14 15 16 17 18 19 ");
        KIT.says("without all its end is where they end");
        KIT.due("one byte more", lost(1025, 2), "2 1024: 4 5 6 7 8 9 10 11 12 13 14 15 16 17 18 19 ");
        KIT.due("the greatest", lost(0xFFFFFFFFL, 16), "2 128: 18 19 ");
        KIT.due("above the greatest int", lost(0x80000000L, 17), "2 64: 19 ");
        KIT.due("as it stands there", Desk.mounted(cells().root(0, "\u00e5", 0, 17, 0xFFFFFFFFL)).field(0, 0, 10), 0xFFFFFFFFL);
    }

    private static void cellsFirstClusters() {
        KIT.says("if the first one is there and its CELL is 0, it, and then those whose CELLS are 0, rising from there");
        KIT.due("0", lost(64, 0), "1 0: ");
        KIT.due("1", lost(64, 1), "1 0: ");
        KIT.due("2", lost(64, 2), "3 64: 4 ");
        KIT.due("17, the last", lost(64, 17), "3 64: 19 ");
        KIT.due("18", lost(64, 18), "1 0: ");
        KIT.due("65535", lost(64, 65535), "1 0: ");
        KIT.due("its CELL is not 0", lost(64, 5, 5), "1 0: ");
        KIT.due("of a living FILE", Desk.mounted(cells().root(0, "\u00e5", 0, 5, 64).root(1, "A", 0, 5, 64).cell(5, 0xFFFF)).field(0, 1, 5), 1);
        KIT.due("unfit", Desk.mounted(cells().root(0, "\u00e5", 0, 5, 64).cell(5, 0xFFF7)).field(0, 0, 5), 1);
        Image two = Image.cells(20, 2, 1, 1, 0).root(0, "\u00e5", 0, 5, 64).cellIn(1, 5, 9);
        KIT.due("by the first TABLE", Desk.mounted(two).field(0, 0, 5), 3);
        KIT.due("by the first TABLE, too", Desk.mounted(two.cellIn(0, 5, 9).cellIn(1, 5, 0)).field(0, 0, 5), 1);
    }

    private static void cellsRising() {
        KIT.says("and then those whose CELLS are 0, rising from there, as many as its size needs");
        KIT.due("over one that is taken", lost(129, 5, 6), "2 129: 7 9 10 ");
        KIT.due("over two", lost(129, 5, 7, 8), "2 129: 7 8 11 ");
        KIT.due("one that is taken behind them", lost(129, 5, 8), "3 129: 7 8 9 ");
        KIT.due("one that is taken before them", lost(129, 5, 4), "3 129: 7 8 9 ");
        KIT.due("none from the beginning again", lost(129, 16), "2 128: 18 19 ");
        KIT.due("the last is taken", lost(65, 16, 17), "2 64: 18 ");
    }

    private static void cellsGrades() {
        KIT.says("GRADE 3: all are there (also none), one behind the other; 2: else, if it has the first; 1 none.");
        KIT.due("all, with a gap", lost(65, 5, 6).charAt(0), '2');
        KIT.due("the first alone", lost(65, 17), "2 64: 19 ");
        KIT.due("two LOST ones of the same CLUSTER", Desk.mounted(cells().root(0, "\u00e5", 0, 5, 64).root(1, "\u00e5", 0, 5, 64)).field(0, 1, 5), 3);
        Desk x = Desk.mounted(cells().root(0, "\u00e5", 0, 5, 100).fill(7 * 64, 128, 'x'));
        KIT.due("it owns none", x.owners(0, 7, 9) + x.tree(0, 4) + x.tree(0, 8), "0 0 01");
        KIT.due("content and slack", x.content(0, 0, 99) + " " + x.content(0, 0, 100) + " " + x.slack(0, 0, 27) + " " + x.slack(0, 0, 28), "120 -1 120 -1");
    }

    private static void cellsInFolders() {
        KIT.says("not of folders; depth and parent as there");
        Image m = cells().root(0, "D", 16, 2, 0).chain(2, 2).root(1, "\u00e5A", 0, 0, 0).row(4 * 64, "\u00e5B", 0, 0, 0).row(4 * 64 + 32, "E", 16, 3, 0).chain(3, 3).row(5 * 64, "\u00e5C", 0, 0, 0);
        Desk x = Desk.mounted(m);
        KIT.says("numbers go on");
        KIT.due("names", x.names(0), "D E ?B ?C ?A ");
        KIT.due("depths and parents", x.field(0, 2, 8) + "," + x.field(0, 2, 6) + " " + x.field(0, 3, 8) + "," + x.field(0, 3, 6) + " " + x.field(0, 4, 8) + "," + x.field(0, 4, 6), "1,0 2,1 0,-1");
        KIT.due("living ones alone are found", x.found(0, "D/?B"), -1);
    }

    private static void cellsForty() {
        KIT.says("LOST FILES of a TREE (40 at most), behind the others");
        for (int n = 39; n <= 42; n++) {
            Image m = Image.cells(40, 1, 1, 22, 0);
            for (int i = 0; i < n; i++) m.b(128 + 32 * i, 0xE5).b(128 + 32 * i + 1, i);
            m.b(128 + 32 * n, 'L');
            Desk x = Desk.mounted(m);
            KIT.due("of " + n, x.tree(0, 2), Math.min(40, n));
            KIT.due("the last of " + n, x.name(0, Math.min(40, n), 1), Math.min(40, n) - 1);
            KIT.due("the living one behind " + n, x.tree(0, 1) + " " + x.name(0, 0, 0), "1 76");
        }
    }

    // ---- NODES

    private static void nodesErasedAbove0() {
        KIT.says("NODES: nodes of KIND 0 with ERASED above 0, rising");
        long[] erased = {0, 1, 255, 256, 65536, 0x01000000, 0x7FFFFFFFL, 0x80000000L, 0xFFFFFFFFL};
        for (long e : erased) {
            Desk x = Desk.mounted(nodes().node(3, 0, 0).moments(3, 0xFFFFFFFFL, 0xFFFFFFFFL, e));
            KIT.due("ERASED " + e, x.tree(0, 2), e == 0 ? 0 : 1);
            if (e > 0) KIT.due("told so", x.field(0, 0, 4), e);
        }
        for (int kind = 1; kind < 4; kind++) KIT.due("KIND " + kind, Desk.mounted(nodes().node(3, kind, 0).moments(3, 0, 0, 9)).tree(0, 2), 0);
        KIT.due("node 8, the last", Desk.mounted(nodes().moments(8, 0, 0, 9)).names(0), "#8 ");
        KIT.due("what is behind it", Desk.mounted(nodes().b4(nodeAt(9) + 12, 9)).tree(0, 2), 0);
        KIT.due("what is before node 1", Desk.mounted(nodes().b4(nodeAt(0) + 12, 9)).tree(0, 2), 0);
        KIT.due("its bit does not matter", Desk.mounted(nodes().node(3, 0, 0).moments(3, 0, 0, 9).b(64, 3)).tree(0, 2), 1);
    }

    private static void nodesNames() {
        KIT.says("a file; NAME '#' and the node's number in digits; depth 0");
        Image m = Image.nodes(60, 64);
        int[] nodes = {2, 9, 10, 11, 19, 20, 63, 64};
        for (int node : nodes) m.moments(node, 0, 0, node);
        Desk x = Desk.mounted(m);
        KIT.due("names", x.names(0), "#2 #9 #10 #11 #19 #20 #63 #64 ");
        KIT.due("fields", x.fields(0, 2), "1 0 0 0 10 4 -1 0 0 0 0 ");
    }

    private static void nodesPlaces() {
        KIT.says("its places as they stand (no FAULTS)");
        Image m = nodes().node(3, 0, 65535, 8, 6, 9, 30, 0, 7, 8).further(3, 10).moments(3, 0, 0, 5).b2(10 * 64, 11).b2(10 * 64 + 62, 12);
        Desk x = Desk.mounted(m);
        KIT.due("places", x.field(0, 0, 7) + " " + x.block(0, 0, 0) + " " + x.block(0, 0, 1) + " " + x.block(0, 0, 3) + " " + x.block(0, 0, 5) + " " + x.block(0, 0, 6) + " " + x.block(0, 0, 7) + " " + x.block(0, 0, 38), "39 8 -1 -1 7 8 11 12");
        KIT.due("its end", x.field(0, 0, 1) + " " + x.field(0, 0, 10) + " " + x.field(0, 0, 9) + " " + x.tree(0, 4), "2496 65535 0 0");
        KIT.due("the BLOCK of further ones is none", Desk.mounted(m.further(3, 6)).block(0, 0, 7), -1);
        KIT.due("it owns none", x.owners(0, 8, 13), "0 0 0 0 0 ");
    }

    private static void nodesGrade4() {
        KIT.says("GRADE 4: each of its places has a BLOCK with OWNER 0 that no place of another such node has that was ERASED later (of the same moment: with a greater number); 3: at least the first is so; 1 else.");
        int[][] places = {{8, 9, 4}, {8, 6, 3}, {8, 30, 3}, {6, 8, 1}, {8, 7, 3}, {7, 8, 1}, {8, 29, 4}, {20, 8, 1}, {8, 20, 3}, {21, 8, 1}, {8, 21, 3}, {0, 0, 1}, {8, 8, 4}};
        for (int[] p : places) {
            Image m = nodes().node(3, 0, 128, p[0], p[1]).moments(3, 0, 0, 5).named(7, 0, 4, "a").node(4, 1, 64, 20).takes(20, 21);
            KIT.due("places " + p[0] + ", " + p[1], Desk.mounted(m).field(0, 1, 5), p[2]);
        }
        KIT.due("without places", Desk.mounted(nodes().moments(3, 0, 0, 5)).field(0, 0, 5), 4);
        KIT.due("the last BLOCK of n", Desk.mounted(nodes().b2(4, 20).node(3, 0, 64, 19).moments(3, 0, 0, 5)).field(0, 0, 5), 4);
        KIT.due("n", Desk.mounted(nodes().b2(4, 20).node(3, 0, 64, 20).moments(3, 0, 0, 5)).field(0, 0, 5), 1);
        Image f = nodes().node(3, 0, 512, 8, 9, 10, 11, 12, 13, 14).further(3, 20).b2(20 * 64, 15).moments(3, 0, 0, 5).takes(20);
        KIT.due("that of further ones is no place", Desk.mounted(f).field(0, 0, 5), 4);
        KIT.due("the eighth is", Desk.mounted(f.takes(15)).field(0, 0, 5), 3);
    }

    private static String grades(long erased3, long erased8, int... places8) {
        Image m = nodes().node(3, 0, 128, 9, 10).moments(3, 0, 0, erased3).node(8, 0, 64 * places8.length, places8).moments(8, 0, 0, erased8);
        Desk x = Desk.mounted(m);
        return x.field(0, 0, 5) + " " + x.field(0, 1, 5);
    }

    private static void nodesErasedLater() {
        KIT.says("that no place of another such node has that was ERASED later (of the same moment: with a greater number)");
        KIT.due("later, by node 8, the last", grades(5, 6, 9), "1 4");
        KIT.due("of the same moment", grades(5, 5, 9), "1 4");
        KIT.due("earlier", grades(6, 5, 9), "4 1");
        KIT.due("later, the second BLOCK", grades(5, 6, 10), "3 4");
        KIT.due("later, as its second place", grades(5, 6, 11, 10), "3 4");
        KIT.due("earlier, its second place", grades(6, 5, 11, 10), "4 3");
        KIT.due("another BLOCK", grades(5, 6, 11), "4 4");
        KIT.due("later, above the greatest int", grades(0x7FFFFFFFL, 0x80000000L, 9), "1 4");
        KIT.due("earlier, though below 0 as an int", grades(0xFFFFFFFFL, 1, 9), "4 1");
        KIT.due("later, at a moment that looks like a place", grades(5, 0x00090009, 11), "4 4");
    }

    private static void nodesOtherSuchNodes() {
        KIT.says("that no place of another such node has");
        Image m = nodes().node(3, 0, 64, 9).moments(3, 0, 0, 5);
        KIT.due("a node of KIND 1 that no ROW names", Desk.mounted(m.node(8, 1, 64, 9).moments(8, 0, 0, 6)).field(0, 0, 5), 4);
        KIT.due("a node of KIND 3", Desk.mounted(m.node(8, 3, 64, 9)).field(0, 0, 5), 4);
        KIT.due("a node that was never ERASED", Desk.mounted(m.node(8, 0, 64, 9).moments(8, 9, 9, 0)).field(0, 0, 5), 4);
        KIT.due("such a node", Desk.mounted(m.moments(8, 0, 0, 6)).field(0, 0, 5), 1);
        KIT.due("behind its size", Desk.mounted(m.node(8, 0, 64, 10, 9)).field(0, 0, 5), 4);
        KIT.due("in its size", Desk.mounted(m.b2(nodeAt(8) + 2, 65)).field(0, 0, 5), 1);
        m.node(8, 0, 512, 10, 10, 10, 10, 10, 10, 10).further(8, 9).b2(9 * 64, 11);
        KIT.due("its BLOCK of further ones is no place", Desk.mounted(m).field(0, 0, 5), 4);
        KIT.due("its eighth place is", Desk.mounted(m.further(8, 12).b2(12 * 64, 9)).field(0, 0, 5), 1);
        KIT.due("of a node above m there is none", Desk.mounted(nodes().node(3, 0, 64, 9).moments(3, 0, 0, 5).b2(nodeAt(9) + 2, 64).b2(nodeAt(9) + 16, 9).b4(nodeAt(9) + 12, 6)).field(0, 0, 5), 4);
    }

    private static void nodesForty() {
        KIT.says("LOST FILES of a TREE (40 at most)");
        Image m = Image.nodes(60, 64);
        for (int node = 2; node <= 42; node++) m.moments(node, 0, 0, 5);
        Desk x = Desk.mounted(m);
        KIT.due("of 41", x.tree(0, 2) + " " + x.nameOf(0, 39), "40 #41");
        m.node(2, 0, 64, 40).node(42, 0, 64, 40);
        KIT.says("that no place of another such node has");
        KIT.due("the 41st is such a node, too", Desk.mounted(m).field(0, 0, 5), 1);
    }

    // ---- TAPE

    private static void tapeEntries() {
        KIT.says("TAPE: entries whose path comes again later, in order; GRADE 4.");
        Image m = new Image(9).entry(0, "b", '0', 1, 1).b(64, '1').entry(2, "a", '5', 0, 2).entry(3, "b", '5', 0, 3).entry(4, "a", '0', 1, 4).b(5 * 64, '2').entry(6, "b", '0', 0, 5);
        Desk x = Desk.mounted(m);
        KIT.due("names", x.names(0), "a b b a b ");
        KIT.due("b", x.fields(0, 2), "1 1 -1 1 -1 4 -1 1 0 0 1 ");
        KIT.due("a, a folder", x.fields(0, 3), "2 0 -1 2 -1 4 -1 0 0 0 0 ");
        KIT.due("b, a folder", x.fields(0, 4), "2 0 -1 3 -1 4 -1 0 0 0 0 ");
        KIT.due("find tells the living one", x.found(0, "b"), 1);
    }

    private static void tapeForty() {
        KIT.says("also of an entry that is left out behind the 60th FILE, or the 40th LOST one; its BLOCKS are 0, and CUT OUT looks at them");
        Image m = new Image(46);
        String pack = Formats.pack();
        for (int i = 0; i < 40; i++) m.entry(i, "s", '5', 0, i);
        m.entry(40, "s", '0', 7, 40).text(41 * 64, pack).entry(42, "s", '0', 7, 41).text(43 * 64, pack).entry(44, "s", '5', 0, 42);
        Desk x = Desk.mounted(m);
        KIT.due("of 42", x.tree(0, 1) + " " + x.tree(0, 2) + " " + x.tree(0, 3), "1 40 2");
        KIT.due("the 40th", x.field(0, 40, 3), 39);
        KIT.due("owners", x.owners(0, 39, 46), "4 4 0 4 0 4 0 ");
        KIT.due("cut out", x.nameOf(0, 41) + x.nameOf(0, 42), "@41@43");
    }

    private static void livingAreGrade5() {
        KIT.says("GRADE of living FILES 5.");
        KIT.due("with FAULTS", Desk.mounted(cells().root(0, "A", 0, 99, 9)).field(0, 0, 5), 5);
        KIT.due("of a TAPE", Desk.mounted(new Image(2).entry(0, "a", '0', 999, 0)).field(0, 0, 5), 5);
        KIT.due("of a folder", Desk.mounted(nodes().named(7, 0, 2, "d").node(2, 2, 0)).field(0, 0, 5), 5);
    }

    // ---- CUT OUT

    private static String chunks(int bytes) {
        return Formats.chunks(Formats.chunk("abCD", Kit.many('x', bytes)), Formats.chunk("IEND", ""));
    }

    private static void cutFromItsFirstByte() {
        KIT.says("if a whole CHUNKS or PACK file (6) begins at its first byte and lies in it and the BLOCKS right behind it, all with OWNER 0");
        String c = chunks(0);
        KIT.due("CHUNKS at its first byte", Desk.mounted(new Image(5).text(64, c)).names(0), "@1 ");
        KIT.due("at its second byte", Desk.mounted(new Image(5).text(65, c)).names(0), "");
        KIT.due("at the last byte before", Desk.mounted(new Image(5).text(63 + 64, c)).names(0), "");
        KIT.due("PACK", Desk.mounted(new Image(5).text(64, Formats.pack("a", "b"))).names(0), "@1 ");
        KIT.due("ROWS are none", Desk.mounted(new Image(5).text(64, Formats.rows(1, Formats.page("\0")))).names(0), "");
        Desk x = Desk.mounted(new Image(5).text(128, Formats.pack("a", "b") + "more"));
        KIT.says("FILES, too, behind the LOST ones: NAME '@' and its BLOCK in digits, GRADE 2, depth 0; size as far as its structure goes.");
        int size = Formats.pack("a", "b").length();
        KIT.due("fields", x.fields(0, 0), "1 " + size + " -1 -1 -1 2 -1 1 0 0 " + size + " ");
        KIT.due("its end", x.content(0, 0, size - 1) + " " + x.content(0, 0, size), "0 -1");
        KIT.due("its slack", x.slack(0, 0, 0) + " " + x.slack(0, 0, 63 - size) + " " + x.slack(0, 0, 64 - size), (int) 'm' + " 0 -1");
        KIT.due("it owns none", x.owner(0, 2), 0);
    }

    private static void cutInItsRun() {
        KIT.says("lies in it and the BLOCKS right behind it, all with OWNER 0");
        int head = 4 + 10 + 10;
        int[][] cases = {{64 - head, 1, 1}, {65 - head, 1, 0}, {65 - head, 2, 1}, {128 - head, 2, 1}, {129 - head, 2, 0}};
        for (int[] k : cases) {
            Image m = new Image(10).entry(0, "a", '5', 0, 0).entry(1, "b", '5', 0, 0);
            Image v = Image.cells(10, 1, 1, 1, 0).text(64 * 5, chunks(k[0])).cell(4 + k[1], 0xFFFF);
            KIT.due(k[0] + " bytes in a run of " + k[1], Desk.mounted(v).names(0), k[2] == 1 ? "@5 " : "");
            String c = chunks(k[0]);
            Image e = new Image(4 + k[1]).text(64 * 4, c.substring(0, Math.min(c.length(), 64 * k[1])));
            KIT.due(k[0] + " bytes, " + k[1] + " BLOCKS to the VOLUME'S end", Desk.mounted(e).names(0), k[2] == 1 ? "@4 " : "");
            KIT.due("a TAPE'S end", Desk.mounted(m).tree(0, 3), 0);
        }
        Image t = Image.cells(10, 1, 1, 1, 0).text(64 * 5, chunks(9)).cell(4, 0xFFFF);
        KIT.due("with an OWNER", Desk.mounted(t).names(0), "");
        Image o = new Image(6).entry(0, "a", '0', 64, 0).text(64, chunks(9));
        KIT.due("a FILE'S BLOCKS", Desk.mounted(o).names(0), "a ");
    }

    private static void cutNotLookedAtAgain() {
        KIT.says("(those BLOCKS are not looked at again)");
        String inner = chunks(0);
        String outer = Formats.chunks(Formats.chunk("abCD", Kit.many('y', 54) + inner + Kit.many('z', 64 - inner.length()) + inner), Formats.chunk("IEND", ""));
        Image m = new Image(8).text(128, outer).text(128 + 64 * 3, inner);
        Desk x = Desk.mounted(m);
        KIT.due("what begins in it", x.names(0), "@2 @5 ");
        KIT.due("its BLOCKS", x.blocksOf(0, 0), "2 3 4 ");
        KIT.due("when it is none", Desk.mounted(m.b(128, 0)).names(0), "@3 @4 @5 ");
        KIT.says("(of several the first; not other LOST ones, nor those CUT OUT)");
        Image l = Image.nodes(20, 2).node(2, 0, 64, 6).moments(2, 0, 0, 5).text(6 * 64, inner);
        KIT.due("a LOST one's BLOCK", Desk.mounted(l).names(0), "#2 @6 ");
    }

    private static void cutWhole() {
        KIT.says("if a whole CHUNKS or PACK file (6) begins at its first byte");
        String c = chunks(3);
        KIT.due("without IEND", Desk.mounted(new Image(3).text(64, c.substring(0, 17))).tree(0, 3), 0);
        KIT.due("a wrong letter", Desk.mounted(new Image(3).text(64, c).b(64 + 6, '1')).tree(0, 3), 0);
        KIT.says("A CRC that is wrong is none.");
        KIT.due("a wrong CRC", Desk.mounted(new Image(3).text(64, c).b(64 + 13, 1)).tree(0, 3), 1);
        KIT.due("a wrong CRC in a PACK", Desk.mounted(new Image(3).text(64, Formats.pack("a", "b")).b(64 + 16, 'c')).tree(0, 3), 1);
        String p = Formats.pack("a", "b");
        for (int i = 0; i < p.length(); i++) {
            boolean matters = i < 6 || i == 6 || i == 7 || i > 16;
            Image m = new Image(3).text(64, p).b(64 + i, p.charAt(i) ^ 64);
            KIT.due("byte " + i + " of a PACK", Desk.mounted(m).tree(0, 3), matters ? 0 : 1);
        }
        KIT.due("an end without entries", Desk.mounted(new Image(3).text(64, Formats.pack())).field(0, 0, 1), 7);
    }

    private static void cutOfAnySize() {
        KIT.says("size as far as its structure goes");
        Image m = new Image(90).fill(64, 80 * 64, 'x').text(64, "\u0089CH\n" + Formats.high(5000, 2) + "abCD");
        m.text(64 + 10 + 5000, "????" + Formats.chunk("IEND", ""));
        Desk x = Desk.mounted(m);
        KIT.due("of 5024 bytes", x.field(0, 0, 1) + " " + x.field(0, 0, 7) + " " + x.nameOf(0, 0), "5024 79 @1");
        KIT.due("its first 4096 are OPENED", x.open(0, 0), 0);
        KIT.due("to", x.node(0, 0, 2), 4096);
    }

    private static void cutNames() {
        KIT.says("NAME '@' and its BLOCK in digits");
        Image m = new Image(128);
        int[] blocks = {1, 9, 10, 11, 19, 20, 99, 100, 101, 109, 110, 127};
        for (int b : blocks) m.text(64 * b, Formats.pack());
        Desk x = Desk.mounted(m);
        KIT.due("names", x.names(0), "@1 @9 @10 @11 @19 @20 @99 @100 @101 @109 @110 @127 ");
        Desk y = new Desk();
        y.blank(128);
        y.blank(128);
        y.volume(0, 0, 128);
        y.volume(1, 0, 128);
        y.join(1, 0, 1, -1);
        String p = Formats.pack();
        for (int b : new int[] {199, 200, 255}) for (int i = 0; i < 7; i++) y.poke(1, 64 * (b - 128) + i, p.charAt(i));
        y.mount(2);
        KIT.due("to the last of 256", y.names(0), "@199 @200 @255 ");
    }

    private static void cutTwenty() {
        KIT.says("CUT OUT (20 at most)");
        for (int n = 19; n <= 21; n++) {
            Image m = new Image(40);
            for (int i = 0; i < n; i++) m.text(64 * (10 + i), Formats.pack());
            Desk x = Desk.mounted(m);
            KIT.due("of " + n, x.tree(0, 3), Math.min(20, n));
            KIT.due("the last of " + n, x.nameOf(0, Math.min(20, n) - 1), "@" + (9 + Math.min(20, n)));
        }
    }

    private static void cutBeyondN() {
        KIT.says("CUT OUT (20 at most): from each BLOCK with OWNER 0, rising");
        Image m = Image.cells(20, 1, 1, 1, 0).b2(4, 10).text(10 * 64, chunks(0)).text(19 * 64, chunks(0)).text(9 * 64, chunks(0));
        KIT.due("beyond n, to the last BLOCK", Desk.mounted(m).names(0), "@9 @10 @19 ");
        Image t = new Image(5).entry(0, "a", '5', 0, 0).text(3 * 64, chunks(0));
        KIT.due("behind a TAPE'S end", Desk.mounted(t).names(0), "a @3 ");
        Image f = new Image(5).entry(0, "a", '5', 0, 0).text(64, chunks(0));
        Desk x = Desk.mounted(f);
        KIT.due("where a TAPE has FAULT 9", x.names(0) + x.faults(0), "a @1 9,-1,1 ");
    }
}
