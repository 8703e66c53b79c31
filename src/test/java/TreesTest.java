/** Promises 23 to 33: what a reader finds who trusts nothing. */
public final class TreesTest {
    private static final Kit KIT = new Kit("Trees");

    public static void main(String[] args) {
        wrongNumbers();
        forms();
        goodCells();
        goodNodes();
        goodTape();
        aTreeOfCells();
        laterChanges();
        chainFaults();
        sizes();
        tablesThatDiffer();
        deepCells();
        aTreeOfNodes();
        placeFaults();
        mapsThatDiffer();
        nodesMetTwice();
        deepNodes();
        aTape();
        tapeFaults();
        sixtyFiles();
        sixtyNodes();
        sixtyEntries();
        hundredFaults();
        finding();
        slackOfFiles();
        KIT.finish();
    }

    private static void wrongNumbers() {
        DiskEvidence x = Kit.disk(20);
        KIT.due("mount(1)", x.mount(1), -2);
        x.format(0, 1, 48 * 8 + 2);
        Kit.save(x, 0, "A", "abc");
        KIT.due("mount", x.mount(0), 0);
        KIT.due("tree(0, 9)", x.tree(0, 9), -2);
        KIT.due("tree(0, -1)", x.tree(0, -1), -2);
        KIT.due("tree(1, 0)", x.tree(1, 0), -2);
        KIT.due("fault(0, 0, 0)", x.fault(0, 0, 0), -2);
        KIT.due("owner(0, 20)", x.owner(0, 20), -2);
        KIT.due("owner(0, -1)", x.owner(0, -1), -2);
        KIT.due("owner(0, 19)", x.owner(0, 19), 0);
        KIT.due("free(0, 0, 0)", x.free(0, 0, 0), 5);
        KIT.due("free(0, 0, 1)", x.free(0, 0, 1), 15);
        KIT.due("free(0, 0, 2)", x.free(0, 0, 2), -2);
        KIT.due("free(0, 1, 0)", x.free(0, 1, 0), -2);
        KIT.due("name(0, 1, 0)", x.name(0, 1, 0), -2);
        KIT.due("name(0, 0, -1)", x.name(0, 0, -1), -1);
        KIT.due("name(0, 0, 1)", x.name(0, 0, 1), -1);
        KIT.due("field(0, 0, 11)", x.field(0, 0, 11), -2);
        KIT.due("field(0, 0, -1)", x.field(0, 0, -1), -2);
        KIT.due("field(0, 1, 0)", x.field(0, 1, 0), -2);
        KIT.due("block(0, 0, -1)", x.block(0, 0, -1), -1);
        KIT.due("block(0, 0, 1)", x.block(0, 0, 1), -1);
        KIT.due("block(0, 1, 0)", x.block(0, 1, 0), -2);
        KIT.due("content(0, 0, 2)", x.content(0, 0, 2), 'c');
        KIT.due("content(0, 0, 3)", x.content(0, 0, 3), -1);
        KIT.due("content(0, 0, -1)", x.content(0, 0, -1), -1);
        KIT.due("content(0, 1, 0)", x.content(0, 1, 0), -2);
        KIT.due("slack(0, 1, 0)", x.slack(0, 1, 0), -2);
        KIT.due("slack(0, 0, 61)", x.slack(0, 0, 61), -1);
        KIT.due("slack(0, 0, -1)", x.slack(0, 0, -1), -1);
        for (int i = 1; i < 6; i++) KIT.due("mount " + i, x.mount(0), i);
        KIT.due("a seventh", x.mount(0), -3);
        x.poke(0, 0, 1);
        KIT.due("FULL goes before FORM", x.mount(0), -3);
        KIT.due("BAD goes before FULL", x.mount(1), -2);
    }

    private static void forms() {
        DiskEvidence x = Kit.disk(9);
        KIT.due("all 0 is a tape", x.mount(0), 0);
        KIT.due("its form", x.tree(0, 0), 3);
        KIT.due("its n", x.tree(0, 5), 9);
        KIT.due("its runs", x.tree(0, 8), 1);
        KIT.due("from block 0 on", x.free(0, 0, 0) * 100 + x.free(0, 0, 1), 9);
        x.poke(0, 63, 1);
        KIT.due("none", x.mount(0), -5);
    }

    private static int mountCells(int at, int b) {
        DiskEvidence x = Kit.disk(20);
        x.format(0, 1, 48 * 8 + 1);
        if (at >= 0) x.poke(0, at, b);
        return x.mount(0);
    }

    private static void goodCells() {
        KIT.due("good", mountCells(-1, 0), 0);
        int[][] wrong = {{0, 'D'}, {1, 'G'}, {2, 0}, {2, 3}, {3, 0}, {3, 9}, {4, 21}, {4, 4}, {5, 1}, {6, 0}, {6, 17}, {7, 49}, {7, 207}, {62, 0x56}, {63, 0}};
        for (int[] w : wrong) KIT.due("byte " + w[0] + " is " + w[1], mountCells(w[0], w[1]), -5);
        int[][] right = {{2, 1}, {3, 8}, {4, 19}, {4, 5}, {6, 16}, {7, 48}, {7, 208}, {8, 9}};
        for (int[] r : right) KIT.due("byte " + r[0] + " is " + r[1], mountCells(r[0], r[1]), 0);
        DiskEvidence x = Kit.disk(70);
        x.format(0, 1, 48 * 8);
        x.poke(0, 3, 2);
        KIT.due("two blocks for 66 clusters", x.mount(0), -5);
        x.poke(0, 4, 66);
        KIT.due("for 62", x.mount(0), 0);
    }

    private static int mountNodes(int at, int b) {
        DiskEvidence x = Kit.disk(20);
        x.format(0, 2, 4);
        if (at >= 0) x.poke(0, at, b);
        return x.mount(0);
    }

    private static void goodNodes() {
        KIT.due("good", mountNodes(-1, 0), 0);
        int[][] wrong = {{0, 'D'}, {1, 'G'}, {2, 0}, {2, 7}, {2, 66}, {2, 34}, {4, 21}, {4, 7}, {5, 1}, {192, 1}, {192, 0}, {62, 0x34}, {63, 0}};
        for (int[] w : wrong) KIT.due("byte " + w[0] + " is " + w[1], mountNodes(w[0], w[1]), -5);
        int[][] right = {{2, 2}, {2, 32}, {3, 5}, {4, 19}, {4, 8}, {193, 0}};
        for (int[] r : right) KIT.due("byte " + r[0] + " is " + r[1], mountNodes(r[0], r[1]), 0);
    }

    private static int mountTape(int at, int b) {
        DiskEvidence x = Kit.disk(5);
        x.format(0, 3, 0);
        Kit.save(x, 0, "a", "abc");
        if (at >= 0) {
            x.poke(0, at, b);
            seal(x, 0, at >= 44 && at < 51);
        }
        return x.mount(0);
    }

    /** A right SUM for a header, or none. */
    private static void seal(DiskEvidence x, int block, boolean leave) {
        if (leave) return;
        int sum = 7 * 32;
        for (int i = 0; i < 64; i++) if (i < 44 || i > 50) sum += x.byteAt(0, 64 * block + i);
        for (int i = 0; i < 7; i++) x.poke(0, 64 * block + 44 + i, '0' + (sum >> 3 * (6 - i) & 7));
    }

    private static void goodTape() {
        KIT.due("good", mountTape(-1, 0), 0);
        int[][] wrong = {{24, '1'}, {24, 0}, {25, '8'}, {31, ' '}, {32, '/'}, {43, '9'}, {44, ' '}, {50, '0'}, {51, 'T'}, {55, '2'}};
        for (int[] w : wrong) KIT.due("byte " + w[0] + " is " + w[1], mountTape(w[0], w[1]), -5);
        int[][] right = {{0, 0}, {5, 200}, {24, '5'}, {25, '7'}, {56, 1}, {63, 255}};
        for (int[] r : right) KIT.due("byte " + r[0] + " is " + r[1], mountTape(r[0], r[1]), 0);
    }

    private static void aTreeOfCells() {
        DiskEvidence x = Kit.disk(24);
        x.format(0, 1, 50 * 8 + 3);
        x.tick(20000);
        Kit.save(x, 0, "A", Kit.many('a', 70));
        Kit.folder(x, 0, "DIR");
        Kit.save(x, 0, "DIR/B.TXT", "b");
        Kit.folder(x, 0, "DIR/SUB");
        Kit.save(x, 0, "DIR/SUB/C", "");
        Kit.save(x, 0, "Z", "z");
        x.tick(100);
        Kit.save(x, 0, "A", Kit.many('a', 71));
        x.poke(0, 64 + 2 * 12, 1);
        x.poke(0, 128 + 2 * 12, 1);
        KIT.due("mount", x.mount(0), 0);
        KIT.due("tree", x.tree(0, 0) + " " + x.tree(0, 1) + " " + x.tree(0, 2) + " " + x.tree(0, 3) + " " + x.tree(0, 4) + " "
            + x.tree(0, 5) + " " + x.tree(0, 6) + " " + x.tree(0, 7) + " " + x.tree(0, 8), "1 6 0 0 0 24 0 0 2");
        KIT.due("names", Kit.names(x, 0), "A DIR B.TXT SUB C Z ");
        KIT.due("A", Kit.fields(x, 0, 0), "1 71 10900 10950 -1 5 -1 2 0 0 71 ");
        KIT.due("DIR", Kit.fields(x, 0, 1), "2 64 10900 10900 -1 5 -1 1 0 0 0 ");
        KIT.due("B.TXT", Kit.fields(x, 0, 2), "1 1 10900 10900 -1 5 1 1 1 0 1 ");
        KIT.due("C", Kit.fields(x, 0, 4), "1 0 10900 10900 -1 5 3 0 2 0 0 ");
        KIT.due("owners", Kit.owners(x, 0), "1 2 2 3 3 16 16 17 18 19 21 0 0 0 0 5 0 0 0 0 0 0 0 0 ");
        KIT.due("blocks of A", Kit.blocks(x, 0, 0), "5 6 ");
        KIT.due("content of A", Kit.content(x, 0, 0), Kit.many('a', 71));
        KIT.due("content of DIR", Kit.content(x, 0, 1).substring(0, 8), "B       ");
        KIT.due("free", x.free(0, 0, 0) + " " + x.free(0, 0, 1) + " " + x.free(0, 1, 0) + " " + x.free(0, 1, 1), "11 4 16 8");
    }

    private static void laterChanges() {
        DiskEvidence x = Kit.disk(20);
        x.format(0, 1, 48 * 8 + 2);
        Kit.save(x, 0, "A", "abc");
        x.mount(0);
        Kit.save(x, 0, "A", "xyz12");
        KIT.due("content as it was mounted", Kit.content(x, 0, 0), "abc");
        x.mount(0);
        KIT.due("content now", Kit.content(x, 1, 0), "xyz12");
    }

    /** Four files of three clusters each: 2 to 4, 5 to 7, 8 to 10, 11 to 13 (blocks 4 to 15). */
    private static DiskEvidence fourFiles() {
        DiskEvidence x = Kit.disk(20);
        x.format(0, 1, 48 * 8 + 2);
        for (char c = 'A'; c < 'E'; c++) Kit.save(x, 0, "" + c, Kit.many(c, 150));
        return x;
    }

    private static void chainFaults() {
        DiskEvidence x = fourFiles();
        Kit.poke2(x, 0, 64 + 2 * 3, 18);
        Kit.poke2(x, 0, 64 + 2 * 6, 0);
        Kit.poke2(x, 0, 64 + 2 * 9, 8);
        Kit.poke2(x, 0, 64 + 2 * 12, 7);
        KIT.due("mount", x.mount(0), 0);
        KIT.due("faults", Kit.faults(x, 0), "2,0,18 8,0,-1 3,1,8 8,1,-1 4,2,10 8,2,-1 ");
        KIT.due("blocks", Kit.blocks(x, 0, 0) + "; " + Kit.blocks(x, 0, 1) + "; " + Kit.blocks(x, 0, 2) + "; " + Kit.blocks(x, 0, 3), "4 5 ; 7 ; 10 11 ; 13 14 9 ");
        KIT.due("owners", Kit.owners(x, 0), "1 2 3 3 16 16 5 17 0 19 18 18 5 19 19 5 0 0 0 0 ");
        DiskEvidence y = fourFiles();
        Kit.poke2(y, 0, 64 + 2 * 11, 3);
        Kit.poke2(y, 0, 64 + 2 * 5, 0xFFF7);
        Kit.poke2(y, 0, 64 + 2 * 8, 0xFFF8);
        Kit.poke2(y, 0, 128 + 32 + 26, 0xFFFF);
        Kit.poke2(y, 0, 128 + 64 + 26, 8);
        KIT.due("mount", y.mount(0), 0);
        KIT.due("faults, too", Kit.faults(y, 0), "2,1,65535 8,1,-1 8,2,-1 5,3,5 8,3,-1 ");
        KIT.due("a file's faults", y.field(0, 3, 9), 2);
        KIT.due("its size as it stands, and its end", y.field(0, 3, 10) * 1000 + y.field(0, 3, 1), 150064);
        DiskEvidence z = fourFiles();
        Kit.poke2(z, 0, 128 + 26, 1);
        Kit.poke2(z, 0, 128 + 32 + 26, 5);
        Kit.poke2(z, 0, 64 + 2 * 5, 0xFFF7);
        Kit.poke2(z, 0, 128 + 64 + 26, 0);
        Kit.poke2(z, 0, 128 + 96 + 26, 17);
        z.mount(0);
        KIT.due("first clusters", Kit.faults(z, 0), "2,0,1 8,0,-1 3,1,7 8,1,-1 8,2,-1 3,3,19 8,3,-1 ");
        z.poke(0, 4, 19);
        z.mount(0);
        KIT.due("below n", Kit.faults(z, 1), "2,0,1 8,0,-1 3,1,7 8,1,-1 8,2,-1 2,3,17 8,3,-1 ");
        KIT.due("owner beyond n", z.owner(1, 19), 0);
    }

    private static void sizes() {
        DiskEvidence x = fourFiles();
        Kit.poke4(x, 0, 128 + 28, 0xFFFFFFFFL);
        Kit.poke4(x, 0, 128 + 32 + 28, 192);
        Kit.poke4(x, 0, 128 + 64 + 28, 193);
        Kit.poke4(x, 0, 128 + 96 + 28, 1);
        x.mount(0);
        KIT.due("faults", Kit.faults(x, 0), "8,0,-1 8,2,-1 ");
        KIT.due("a very large size", x.field(0, 0, 10), 0xFFFFFFFFL);
        KIT.due("ends", x.field(0, 0, 1) + " " + x.field(0, 1, 1) + " " + x.field(0, 2, 1) + " " + x.field(0, 3, 1), "192 192 192 1");
        KIT.due("clusters stay", x.field(0, 3, 7), 3);
        KIT.due("slack", x.slack(0, 3, 190) + " " + x.slack(0, 3, 191), "0 -1");
        x.poke(0, 128 + 11, 16);
        Kit.poke2(x, 0, 4 * 64, 0);
        x.mount(0);
        KIT.due("a folder's size", x.field(1, 0, 1) + " " + x.field(1, 0, 10) + " " + x.field(1, 0, 9), "192 4294967295 0");
        x.poke(0, 128 + 11, 255);
        x.poke(0, 128 + 32 + 11, 239);
        x.mount(0);
        KIT.due("16 is in it or not", x.field(2, 0, 0) * 10 + x.field(2, 1, 0), 21);
    }

    private static void tablesThatDiffer() {
        DiskEvidence x = Kit.disk(60);
        x.format(0, 1, 48 * 8 + 1);
        Kit.save(x, 0, "A", Kit.many('a', 100));
        Kit.poke2(x, 0, 3 * 64, 9);
        Kit.poke2(x, 0, 64 + 2 * 5, 9);
        Kit.poke2(x, 0, 3 * 64 + 2 * 40, 9);
        Kit.poke2(x, 0, 3 * 64 + 2 * 55, 9);
        Kit.poke2(x, 0, 3 * 64 + 2 * 56, 9);
        x.mount(0);
        KIT.due("faults", Kit.faults(x, 0), "1,-1,1 1,-1,1 1,-1,2 1,-1,2 ");
        KIT.due("the first one counts", x.owner(0, 6 + 3) + " " + x.owner(0, 6 + 38), "5 0");
    }

    private static void deepCells() {
        DiskEvidence x = Kit.disk(24);
        x.format(0, 1, 48 * 8 + 2);
        String path = "D";
        for (int i = 0; i < 6; i++) {
            Kit.folder(x, 0, path);
            path += "/D";
        }
        Kit.save(x, 0, "D/D/D/D/D/F", "f");
        x.mount(0);
        KIT.due("names", Kit.names(x, 0), "D D D D D D F ");
        KIT.due("faults", Kit.faults(x, 0), "6,5,9 ");
        KIT.due("depth of the last folder", x.field(0, 5, 8), 5);
        KIT.due("its size", x.field(0, 5, 1), 64);
        KIT.due("parent of the file", x.field(0, 6, 6), 4);
        Kit.poke2(x, 0, 8 * 64 + 26, 0);
        x.mount(0);
        KIT.due("without clusters", Kit.faults(x, 1), "");
        Kit.poke2(x, 0, 8 * 64 + 26, 2);
        x.mount(0);
        KIT.due("a folder in itself", Kit.faults(x, 2), "5,5,4 ");
    }

    private static void aTreeOfNodes() {
        DiskEvidence x = Kit.disk(30);
        x.format(0, 2, 4);
        x.tick(50);
        Kit.save(x, 0, "a", Kit.many('a', 64 * 8 + 1));
        Kit.folder(x, 0, "d");
        x.tick(1);
        Kit.save(x, 0, "d/b", "b");
        Kit.save(x, 0, "a", Kit.many('a', 64 * 7 + 1));
        x.mount(0);
        KIT.due("tree", x.tree(0, 0) + " " + x.tree(0, 1) + " " + x.tree(0, 4) + " " + x.tree(0, 5) + " " + x.tree(0, 8), "2 3 0 30 2");
        KIT.due("names", Kit.names(x, 0), "a d b ");
        KIT.due("a", Kit.fields(x, 0, 0), "1 449 50 51 0 5 -1 8 0 0 449 ");
        KIT.due("d", Kit.fields(x, 0, 1), "2 64 50 50 0 5 -1 1 0 0 64 ");
        KIT.due("b", Kit.fields(x, 0, 2), "1 1 51 51 0 5 1 1 1 0 1 ");
        KIT.due("owners", Kit.owners(x, 0), "1 1 1 1 1 1 1 1 16 16 16 16 16 16 16 16 16 0 17 18 0 0 0 0 0 0 0 0 0 0 ");
        KIT.due("blocks of a", Kit.blocks(x, 0, 0), "8 9 10 11 12 13 14 16 ");
        KIT.due("content", x.content(0, 0, 0) + " " + x.content(0, 0, 448) + " " + x.content(0, 0, 449), "97 97 -1");
    }

    private static int nodeAt(int node) {
        return 192 + 32 * (node - 1);
    }

    private static void placeFaults() {
        DiskEvidence x = Kit.disk(40);
        x.format(0, 2, 4);
        Kit.save(x, 0, "a", Kit.many('a', 64 * 9));
        Kit.save(x, 0, "b", Kit.many('b', 64 * 9));
        Kit.save(x, 0, "c", "c");
        Kit.poke2(x, 0, nodeAt(2) + 16 + 4, 6);
        Kit.poke2(x, 0, nodeAt(2) + 16 + 6, 40);
        Kit.poke2(x, 0, 15 * 64 + 2, 0);
        Kit.poke2(x, 0, nodeAt(3) + 16, 9);
        Kit.poke2(x, 0, nodeAt(3) + 18, 7);
        Kit.poke2(x, 0, nodeAt(3) + 30, 600);
        Kit.poke2(x, 0, nodeAt(4) + 2, 2497);
        x.mount(0);
        StringBuilder c = new StringBuilder();
        for (int k = 1; k < 7; k++) c.append("2,2,0 ");
        KIT.due("faults", Kit.faults(x, 0), "2,0,6 2,0,40 2,0,0 5,1,9 2,1,600 " + c + "2,2,0 8,2,-1 "
            + "12,-1,10 12,-1,11 12,-1,17 12,-1,18 12,-1,19 12,-1,25 12,-1,26 12,-1,27 ");
        KIT.due("blocks of a", Kit.blocks(x, 0, 0), "8 9 -1 -1 12 13 14 16 -1 ");
        KIT.due("blocks of b", Kit.blocks(x, 0, 1), "9 7 20 21 22 23 24 -1 -1 ");
        KIT.due("the first has it", x.owner(0, 9) + " " + x.owner(0, 7), "16 1");
        KIT.due("without a block 0", x.content(0, 0, 128) + " " + x.content(0, 1, 0) + " " + x.content(0, 1, 8 * 64), "0 97 0");
        KIT.due("39 places", x.field(0, 2, 7) + " " + x.field(0, 2, 1) + " " + x.field(0, 2, 10), "39 2496 2497");
        Kit.poke2(x, 0, nodeAt(3) + 30, 15);
        x.mount(0);
        KIT.due("a block of further ones that is another's", Kit.faults(x, 1).substring(19, 45), "5,1,9 5,1,15 5,1,16 2,1,0 ");
    }

    private static void mapsThatDiffer() {
        DiskEvidence x = Kit.disk(20);
        x.format(0, 2, 4);
        Kit.save(x, 0, "a", Kit.many('a', 100));
        Kit.poke2(x, 0, nodeAt(1) + 30, 17);
        Kit.poke2(x, 0, nodeAt(2) + 30, 18);
        x.poke(0, 128, 0xFD);
        x.poke(0, 129, 2 + 128);
        x.poke(0, 130, 8 + 16);
        x.mount(0);
        KIT.due("faults", Kit.faults(x, 0), "11,-1,1 11,0,8 12,-1,15 12,-1,19 ");
        KIT.due("owners", Kit.owners(x, 0), "1 1 1 1 1 1 1 1 16 16 0 0 0 0 0 5 0 0 0 5 ");
        KIT.due("its faults", x.field(0, 0, 9), 1);
        x.poke(0, 4, 19);
        x.mount(0);
        KIT.due("below n", Kit.faults(x, 1), "11,-1,1 11,0,8 12,-1,15 ");
        KIT.due("beyond n", x.owner(1, 19), 0);
    }

    private static void nodesMetTwice() {
        DiskEvidence x = Kit.disk(30);
        x.format(0, 2, 4);
        Kit.folder(x, 0, "d");
        Kit.save(x, 0, "d/f", "f");
        Kit.save(x, 0, "e", "e");
        Kit.save(x, 0, "g", "g");
        Kit.poke2(x, 0, 448 + 16, 2);
        Kit.poke2(x, 0, 448 + 32, 1);
        Kit.poke2(x, 0, 512 + 16, 9);
        Kit.poke2(x, 0, 512 + 32, 2);
        Kit.poke2(x, 0, 512 + 48, 7);
        x.mount(0);
        KIT.due("names", Kit.names(x, 0), "d f  e g ");
        KIT.due("faults", Kit.faults(x, 0), "7,-1,9 5,2,8 6,2,2 7,-1,7 5,3,8 6,3,2 6,4,1 12,-1,10 12,-1,11 ");
        KIT.due("a name without bytes", x.name(0, 2, 0), -1);
        KIT.due("the root's blocks stay the root's", x.owner(0, 7) + " " + x.field(0, 4, 9), "1 1");
    }

    private static void deepNodes() {
        DiskEvidence x = Kit.disk(40);
        x.format(0, 2, 8);
        String path = "d";
        for (int i = 0; i < 6; i++) {
            Kit.folder(x, 0, path);
            path += "/d";
        }
        x.mount(0);
        KIT.due("names", Kit.names(x, 0), "d d d d d d ");
        KIT.due("faults", Kit.faults(x, 0), "6,5,7 ");
        KIT.due("its depth and blocks", x.field(0, 5, 8) + " " + x.field(0, 5, 7), "5 1");
    }

    private static void aTape() {
        DiskEvidence x = Kit.disk(12);
        x.format(0, 3, 0);
        x.tick(8);
        Kit.save(x, 0, "a", Kit.many('1', 65));
        Kit.folder(x, 0, "a/d");
        x.tick(1);
        Kit.save(x, 0, "b", "b");
        Kit.save(x, 0, "a", "2");
        x.mount(0);
        KIT.due("tree", x.tree(0, 0) + " " + x.tree(0, 1) + " " + x.tree(0, 2) + " " + x.tree(0, 4) + " " + x.tree(0, 8), "3 3 1 0 1");
        KIT.due("names", Kit.names(x, 0), "a/d b a a ");
        KIT.due("a/d", Kit.fields(x, 0, 0), "2 0 -1 8 -1 5 -1 0 0 0 0 ");
        KIT.due("a", Kit.fields(x, 0, 2), "1 1 -1 9 -1 5 -1 1 0 0 1 ");
        KIT.due("the other a", Kit.fields(x, 0, 3), "1 65 -1 8 -1 4 -1 2 0 0 65 ");
        KIT.due("owners", Kit.owners(x, 0), "4 19 19 4 4 17 4 18 0 0 0 0 ");
        KIT.due("contents", Kit.content(x, 0, 2) + Kit.content(x, 0, 3).length(), "265");
    }

    private static void tapeFaults() {
        DiskEvidence x = Kit.disk(8);
        x.format(0, 3, 0);
        Kit.save(x, 0, "a", "1");
        Kit.save(x, 0, "b", "2");
        x.poke(0, 4 * 64, 1);
        x.mount(0);
        KIT.due("no header", Kit.faults(x, 0), "9,-1,4 ");
        KIT.due("fault(0, 0, -1)", x.fault(0, 0, -1), -2);
        KIT.due("fault(0, 0, 3)", x.fault(0, 0, 3), -2);
        KIT.due("fault(0, -1, 0)", x.fault(0, -1, 0), -2);
        KIT.due("fault(0, 1, 0)", x.fault(0, 1, 0), -2);
        KIT.due("fault(1, 0, 0)", x.fault(1, 0, 0), -2);
        KIT.due("free(0, -1, 0)", x.free(0, -1, 0), -2);
        KIT.due("free(1, 0, 0)", x.free(1, 0, 0), -2);
        KIT.due("owners", Kit.owners(x, 0), "4 16 4 17 0 0 0 0 ");
        x.poke(0, 2 * 64 + 29, '6');
        seal(x, 2, false);
        x.mount(0);
        KIT.due("beyond the volume", Kit.faults(x, 1), "10,-1,2 ");
        KIT.due("it has what is there", Kit.fields(x, 1, 1), "1 320 -1 0 -1 5 -1 5 0 0 385 ");
        KIT.due("owners, too", Kit.owners(x, 1), "4 16 4 17 17 17 17 17 ");
        x.poke(0, 2 * 64 + 24, '5');
        seal(x, 2, false);
        x.mount(0);
        KIT.due("a folder has no blocks", Kit.fields(x, 2, 1), "2 0 -1 0 -1 5 -1 0 0 0 385 ");
        KIT.due("what is behind it is no header", Kit.faults(x, 2), "9,-1,3 ");
    }

    private static void sixtyFiles() {
        DiskEvidence x = Kit.disk(64);
        x.format(0, 1, 48 * 8 + 6);
        Kit.folder(x, 0, "D");
        for (int i = 0; i < 58; i++) Kit.save(x, 0, "D/F" + i, "");
        Kit.save(x, 0, "D/LAST", "x");
        Kit.save(x, 0, "OVER", "y");
        Kit.folder(x, 0, "FAR");
        Kit.save(x, 0, "FAR/IN", "");
        Kit.save(x, 0, "GONE", "z");
        Kit.erase(x, 0, "GONE");
        x.mount(0);
        KIT.due("sixty", x.tree(0, 1), 60);
        KIT.due("the 60th", Kit.name(x, 0, 59), "LAST");
        KIT.due("lost ones are met all the same", Kit.name(x, 0, 60), "?ONE");
        KIT.due("nobody's", x.owner(0, x.block(0, 59, 0) + 1), 5);
        KIT.due("no faults of what is left out", x.tree(0, 4), 0);
    }

    private static void sixtyNodes() {
        DiskEvidence x = Kit.disk(80);
        x.format(0, 2, 32);
        for (int i = 0; i < 61; i++) KIT.due("file " + i, Kit.save(x, 0, "f" + i, i == 60 ? "x" : ""), i == 60 ? 1 : 0);
        Kit.save(x, 0, "g", "");
        x.mount(0);
        KIT.due("sixty", x.tree(0, 1), 60);
        KIT.due("the block of the 61st", Kit.faults(x, 0), "12,-1,52 ");
        x.poke(0, nodeAt(63), 9);
        x.mount(0);
        KIT.due("a FAULT 7 is told all the same", Kit.faults(x, 1), "7,-1,63 12,-1,52 ");
    }

    private static void sixtyEntries() {
        DiskEvidence x = Kit.disk(128);
        x.format(0, 3, 0);
        for (int i = 0; i < 62; i++) Kit.save(x, 0, "f" + i, i < 60 ? "" : Formats.chunks(Formats.chunk("IEND", "")));
        x.poke(0, 64 * 64, 1);
        x.mount(0);
        KIT.due("sixty", x.tree(0, 1), 60);
        KIT.due("headers", x.owner(0, 60) + " " + x.owner(0, 62), "4 4");
        KIT.due("blocks that are left out", x.owner(0, 61) + " " + x.owner(0, 63), "0 0");
        KIT.due("are looked at", x.tree(0, 3), 2);
        KIT.due("and FAULT 9 is told", Kit.faults(x, 0), "9,-1,64 ");
    }

    private static void hundredFaults() {
        DiskEvidence x = Kit.disk(100);
        x.format(0, 2, 4);
        Kit.save(x, 0, "a", "");
        Kit.save(x, 0, "b", "");
        Kit.save(x, 0, "c", "");
        for (int node = 2; node < 5; node++) {
            Kit.poke2(x, 0, nodeAt(node) + 2, 3000);
            Kit.poke2(x, 0, nodeAt(node) + 30, 50);
        }
        x.poke(0, 128 + 50 / 8, 1 << 50 % 8);
        x.mount(0);
        KIT.due("a hundred", x.tree(0, 4), 100);
        KIT.due("each file's", x.field(0, 0, 9) + " " + x.field(0, 1, 9) + " " + x.field(0, 2, 9), "40 41 41");
        KIT.due("the last one told", x.fault(0, 99, 0) + " " + x.fault(0, 99, 1), "2 2");
        KIT.due("no more", x.fault(0, 100, 0), -2);
    }

    private static void finding() {
        DiskEvidence x = Kit.disk(40);
        x.format(0, 1, 48 * 8 + 6);
        Kit.folder(x, 0, "D");
        Kit.save(x, 0, "D/F", "");
        Kit.save(x, 0, "E", "");
        Kit.folder(x, 0, "E1");
        Kit.save(x, 0, "E1/F", "");
        Kit.save(x, 0, "X", "");
        x.poke(0, 3 * 64 + 64 + 1, ' ');
        Kit.write(x, 0, 3 * 64 + 96, Kit.raw("        "));
        x.mount(0);
        KIT.due("names", Kit.names(x, 0), "D F E E F  ");
        KIT.due("find D", Kit.find(x, 0, "D"), 0);
        KIT.due("COLLECTED", x.count(0), 0);
        KIT.due("find D/F", Kit.find(x, 0, "D/F"), 1);
        KIT.due("the first of a name alone", Kit.find(x, 0, "E/F"), -1);
        KIT.due("a name without bytes", Kit.find(x, 0, ""), 5);
        KIT.due("in a name without bytes", Kit.find(x, 0, "/F"), -1);
        KIT.due("find Q", Kit.find(x, 0, "Q"), -1);
        KIT.due("find F", Kit.find(x, 0, "F"), -1);
        KIT.due("find D/", Kit.find(x, 0, "D/"), -1);
        Kit.text(x, "D");
        KIT.due("find in a bad tree", x.find(1), -2);
        KIT.due("leaves COLLECTED", x.forget(), 1);
        x.poke(0, 3 * 64 + 1, 0);
        x.mount(0);
        KIT.due("whatever bytes", Kit.find(x, 1, "D\0"), 0);
        DiskEvidence y = Kit.disk(12);
        y.format(0, 3, 0);
        Kit.save(y, 0, "a/b", "");
        Kit.save(y, 0, "c", "");
        Kit.save(y, 0, "c", "");
        y.mount(0);
        KIT.due("a whole name", Kit.find(y, 0, "a/b"), 0);
        KIT.due("a part", Kit.find(y, 0, "a"), -1);
        KIT.due("one that lives", Kit.find(y, 0, "c"), 1);
    }

    private static void slackOfFiles() {
        DiskEvidence x = Kit.disk(30);
        x.format(0, 2, 4);
        Kit.save(x, 0, "a", "abc");
        x.poke(0, 8 * 64 + 3, 's');
        x.poke(0, 8 * 64 + 63, 't');
        Kit.poke2(x, 0, nodeAt(1) + 2, 70);
        x.mount(0);
        KIT.due("slack", x.slack(0, 0, 0) + " " + x.slack(0, 0, 60) + " " + x.slack(0, 0, 61), "115 116 -1");
        Kit.poke2(x, 0, nodeAt(2) + 2, 65);
        x.mount(0);
        KIT.due("a place without a block is 0s there", x.slack(1, 0, 0) + " " + x.slack(1, 0, 62) + " " + x.slack(1, 0, 63), "0 0 -1");
        x.poke(0, nodeAt(2), 2);
        Kit.poke2(x, 0, nodeAt(2) + 2, 60);
        x.mount(0);
        KIT.due("of a folder", x.slack(2, 0, 3), 't');
    }
}
