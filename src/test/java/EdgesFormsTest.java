/** Boundary cases of what is GOOD in "4 TREES", and of promises 23 to 27, each by the sentence that names it. */
public final class EdgesFormsTest {
    private static final Kit KIT = new Kit("EdgesForms");
    private static final int MAX = Integer.MAX_VALUE, MIN = Integer.MIN_VALUE;

    public static void main(String[] args) {
        cellsTablesAndBlocks();
        cellsOneCluster();
        cellsThatTablesHave();
        cellsZones();
        cellsLastTwoBytes();
        nodesNumbers();
        nodesBlocksBeyond();
        nodesLastTwoBytes();
        node1AFolder();
        tapeHeaders();
        tapeAll0();
        inTheOrderOf3();
        formsOf256Blocks();
        mountInItsOrder();
        treesStay();
        treeNumbers();
        faultNumbers();
        ownerNumbers();
        freeNumbers();
        KIT.finish();
    }

    private static int mounted(Image m) {
        Desk x = Desk.of(m);
        int answer = x.mount(0);
        return answer < 0 ? answer : x.tree(0, 0);
    }

    // ---- CELLS

    private static void cellsTablesAndBlocks() {
        KIT.says("CELLS: 1 or 2 TABLES, t and r above 0, n at most the VOLUME'S BLOCKS");
        int[][] bytes = {{2, 0, -5}, {2, 1, 1}, {2, 2, 1}, {2, 3, -5}, {2, 255, -5}, {3, 0, -5}, {3, 1, 1}, {6, 0, -5}, {6, 1, 1}, {0, 'c', -5}, {1, 'N', -5}, {4, 20, 1}, {4, 21, -5}, {4, 19, 1}, {4, 0, -5}, {5, 1, -5}, {8, 255, 1}, {61, 255, 1}};
        for (int[] b : bytes) KIT.due("byte " + b[0] + " is " + b[1], mounted(Image.cells(20, 1, 1, 1, 0).b(b[0], b[1])), b[2]);
    }

    private static void cellsOneCluster() {
        KIT.says("at least one CLUSTER");
        for (int tables = 1; tables <= 2; tables++) {
            for (int t = 1; t <= 3; t++) {
                int first = 1 + tables * t + 4;
                KIT.due("none, " + tables + " TABLES of " + t, mounted(Image.cells(20, tables, t, 4, 0).b2(4, first)), -5);
                KIT.due("one, " + tables + " TABLES of " + t, mounted(Image.cells(20, tables, t, 4, 0).b2(4, first + 1)), 1);
            }
        }
        KIT.due("fewer than none", mounted(Image.cells(20, 2, 1, 1, 0).b(3, 255).b(6, 255)), -5);
    }

    private static void cellsThatTablesHave() {
        KIT.says("32 t at least 2 and all CLUSTERS");
        KIT.due("30 of 32", mounted(Image.cells(33, 1, 1, 1, 0)), 1);
        KIT.due("31 of 32", mounted(Image.cells(34, 1, 1, 1, 0)), -5);
        KIT.due("32 of 32", mounted(Image.cells(35, 1, 1, 1, 0)), -5);
        KIT.due("62 of 64", mounted(Image.cells(68, 2, 2, 1, 0)), 1);
        KIT.due("63 of 64", mounted(Image.cells(69, 2, 2, 1, 0)), -5);
        KIT.due("more than there need be", mounted(Image.cells(34, 1, 9, 1, 0)), 1);
    }

    private static void cellsZones() {
        KIT.says("ZONE (a signed byte, in quarters of an hour, -48 .. 48)");
        int[][] zones = {{-48, 1}, {48, 1}, {0, 1}, {-1, 1}, {-49, -5}, {49, -5}, {127, -5}, {-128, -5}};
        for (int[] z : zones) KIT.due("ZONE " + z[0], mounted(Image.cells(20, 1, 1, 1, z[0])), z[1]);
    }

    private static void cellsLastTwoBytes() {
        KIT.says("62, 63: 0x55, 0xAA. TABLES of t BLOCKS each");
        int[][] last = {{62, 0x54}, {62, 0x33}, {62, 0}, {63, 0xAB}, {63, 0x77}, {63, 0}};
        for (int[] b : last) KIT.due("byte " + b[0] + " is " + b[1], mounted(Image.cells(20, 1, 1, 1, 0).b(b[0], b[1])), -5);
    }

    // ---- NODES

    private static void nodesNumbers() {
        KIT.says("NODES: m, n at most the VOLUME'S and 512");
        int[][] bytes = {{2, 0, -5}, {2, 1, -5}, {2, 2, 2}, {2, 3, -5}, {2, 7, -5}, {2, 64, 2}, {2, 65, -5}, {2, 66, -5}, {2, 254, -5}, {0, 'C', -5}, {1, 'f', -5}, {4, 40, 2}, {4, 41, -5}, {4, 0, -5}, {5, 1, -5}, {5, 255, -5}, {3, 9, 2}, {6, 255, 2}, {61, 1, 2}};
        for (int[] b : bytes) KIT.due("byte " + b[0] + " is " + b[1], mounted(Image.nodes(40, 8).b(b[0], b[1])), b[2]);
    }

    private static void nodesBlocksBeyond() {
        KIT.says("BLOCKS beyond the nodes");
        for (int m = 2; m <= 64; m += 31 * 2) {
            int data = 3 + m / 2;
            KIT.due("none, m is " + m, mounted(Image.nodes(40, m).b2(4, data)), -5);
            KIT.due("one, m is " + m, mounted(Image.nodes(40, m).b2(4, data + 1)), 2);
        }
    }

    private static void nodesLastTwoBytes() {
        KIT.says("62, 63: 0x33, 0x77.");
        int[][] last = {{62, 0x32}, {62, 0x55}, {63, 0x76}, {63, 0xAA}};
        for (int[] b : last) KIT.due("byte " + b[0] + " is " + b[1], mounted(Image.nodes(20, 8).b(b[0], b[1])), -5);
    }

    private static void node1AFolder() {
        KIT.says("node 1 a folder");
        for (int kind = 0; kind <= 3; kind++) KIT.due("KIND " + kind, mounted(Image.nodes(20, 8).b(192, kind)), kind == 2 ? 2 : -5);
        KIT.due("KIND 255", mounted(Image.nodes(20, 8).b(192, 255)), -5);
        KIT.due("byte 1 is 0", mounted(Image.nodes(20, 8).b(193, 0)), 2);
        KIT.due("its bit is 0", mounted(Image.nodes(20, 8).b(64, 0)), 2);
        KIT.due("of size 0", mounted(Image.nodes(20, 8).b2(194, 0)), 2);
    }

    // ---- TAPE

    private static void tapeHeaders() {
        KIT.says("TAPE: BLOCK 0 is a HEADER (\"tape1\", right SUM, digits, byte 24 as told) or all 0 (TAPE, if nothing else).");
        Image good = new Image(3).entry(0, "a", '0', 3, 4);
        KIT.due("a HEADER", mounted(good), 3);
        int[][] bytes = {{24, '5', 3}, {24, '1', -5}, {24, '4', -5}, {24, '6', -5}, {24, '/', -5}, {24, 0, -5}, {25, '7', 3}, {25, '8', -5}, {25, '/', -5}, {31, '7', 3}, {31, '8', -5}, {31, 0, -5},
            {32, '7', 3}, {32, '8', -5}, {43, ' ', -5}, {43, '7', 3}, {51, 'T', -5}, {52, 'b', -5}, {53, 'q', -5}, {54, 'f', -5}, {55, '2', -5}, {55, 0, -5}, {0, 0, 3}, {23, 255, 3}, {56, 255, 3}, {63, 1, 3}};
        for (int[] b : bytes) KIT.due("byte " + b[0] + " is " + b[1], mounted(new Image(3).entry(0, "a", '0', 3, 4).b(b[0], b[1]).seal(0)), b[2]);
        for (int at = 44; at <= 50; at++) {
            int was = good.a[at];
            KIT.due("the SUM'S byte " + at + " is one more", mounted(good.b(at, was + 1)), -5);
            KIT.due("it is a blank", mounted(good.b(at, ' ')), -5);
            good.b(at, was);
        }
        KIT.due("a byte more in the path", mounted(good.b(10, 1)), -5);
    }

    private static void tapeAll0() {
        KIT.says("or all 0 (TAPE, if nothing else)");
        KIT.due("one BLOCK of 0s", mounted(new Image(1)), 3);
        KIT.due("the first byte is 1", mounted(new Image(1).b(0, 1)), -5);
        KIT.due("the last byte is 1", mounted(new Image(1).b(63, 1)), -5);
        KIT.due("what is behind BLOCK 0", mounted(new Image(2).b(64, 1)), 3);
        KIT.due("a SPOILT BLOCK 0", mounted(new Image(2).spoil(0).b(64, 1)), 3);
    }

    private static void inTheOrderOf3() {
        KIT.says("none is GOOD (asked in the order of 3)");
        Image cells = new Image(20).entry(0, "CF\1\1\24\0\1\0", '0', 0, 0).b(62, 0x55).b(63, 0xAA).seal(0);
        KIT.due("CELLS and a HEADER", mounted(cells), 1);
        KIT.due("no CELLS, a HEADER", mounted(cells.b(2, 3).seal(0)), 3);
        Image nodes = new Image(20).entry(0, "NF\10\0\24\0", '5', 0, 0).b(62, 0x33).b(63, 0x77).b(192, 2).seal(0);
        KIT.due("NODES and a HEADER", mounted(nodes), 2);
        KIT.due("no NODES, a HEADER", mounted(nodes.b(192, 1)), 3);
        KIT.due("its n is the VOLUME'S BLOCKS", Desk.mounted(nodes.b2(4, 9).seal(0)).tree(0, 5), 20);
    }

    private static void formsOf256Blocks() {
        KIT.says("n at most the VOLUME'S BLOCKS");
        Desk x = new Desk();
        x.add(new Image(128).text(0, "CF\1\10\0\1\1\0").b(62, 0x55).b(63, 0xAA));
        x.add(new Image(128));
        x.join(1, 0, 1, -1);
        KIT.due("256 of 128", x.mount(0), -5);
        KIT.due("256 of 256", x.mount(2), 0);
        KIT.due("n", x.tree(0, 5), 256);
        KIT.due("the last BLOCK", x.owner(0, 255), 0);
        x.poke(0, 4, 1);
        KIT.due("257 of 256", x.mount(2), -5);
    }

    // ---- promises 23 to 27

    private static void mountInItsOrder() {
        KIT.says("A VOLUME is MOUNTED: a TREE. BAD; FULL: 6; FORM: none is GOOD (asked in the order of 3).");
        Desk x = Desk.blanks(2);
        KIT.due("mount(1)", x.mount(1), -2);
        KIT.due("mount(-1)", x.mount(-1), -2);
        KIT.due("the greatest int", x.mount(MAX), -2);
        x.put("abc");
        x.poke(0, 0, 1);
        KIT.due("FORM", x.mount(0), -5);
        KIT.due("no TREE came", x.count(3), 0);
        x.poke(0, 0, 0);
        for (int i = 0; i < 6; i++) KIT.due("TREE " + i, x.mount(0), i);
        KIT.due("a seventh", x.mount(0), -3);
        x.poke(0, 0, 1);
        KIT.due("FULL before FORM", x.mount(0), -3);
        KIT.due("BAD before FULL", x.mount(1), -2);
        KIT.due("count(3)", x.count(3), 6);
        KIT.due("COLLECTED stay", x.count(0), 3);
        KIT.due("tree(5, 6)", x.tree(5, 6), 0);
        KIT.due("tree(6, 6)", x.tree(6, 6), -2);
        KIT.due("owner(6, 0)", x.owner(6, 0), -2);
        KIT.due("open(6, 0)", x.open(6, 0), -2);
    }

    private static void treesStay() {
        KIT.says("tell what a VOLUME has when it is MOUNTED (later changes do not alter them)");
        Desk x = Desk.mounted(Image.cells(20, 1, 1, 1, 0).root(0, "A", 0, 2, 65).chain(2, 2).fill(3 * 64, 64, 'a').root(1, "\u00e5B", 0, 5, 1));
        String fields = x.fields(0, 0);
        String lost = x.fields(0, 1);
        String owners = x.owners(0, 0, 20);
        KIT.due("faults", x.faults(0), "8,0,-1 ");
        KIT.due("format", x.format(0, 3, 0), 0);
        x.spoil(0, 3, true);
        KIT.due("fields", x.fields(0, 0) + x.fields(0, 1), fields + lost);
        KIT.due("owners", x.owners(0, 0, 20), owners);
        KIT.due("faults, too", x.faults(0), "8,0,-1 ");
        KIT.due("names", x.names(0), "A ?B ");
        KIT.due("content", x.content(0, 0, 63), 'a');
        KIT.due("words", x.worded(0, "aaaa"), 61 * 2);
        KIT.due("another TREE", x.mount(0), 1);
        KIT.due("tells what is there now", x.tree(1, 0), 3);
    }

    private static void treeNumbers() {
        KIT.says("Of a TREE: what = 0 its form, 1 FILES that live, 2 LOST ones, 3 CUT OUT ones, 4 FAULTS, 5 n, 6 its VOLUME, 7 INSIDE ones, 8 runs of BLOCKS with OWNER 0. BAD.");
        Desk x = Desk.blanks(3);
        KIT.due("without a TREE", x.tree(0, 0), -2);
        x.volume(0, 1, 2);
        x.mount(1);
        int[] due = {3, 0, 0, 0, 0, 2, 1, 0, 1};
        for (int what = 0; what < 9; what++) KIT.due("what = " + what, x.tree(0, what), due[what]);
        KIT.due("what = -1", x.tree(0, -1), -2);
        KIT.due("what = 9", x.tree(0, 9), -2);
        KIT.due("what = the greatest int", x.tree(0, MAX), -2);
        KIT.due("TREE 1", x.tree(1, 0), -2);
        KIT.due("TREE -1", x.tree(-1, 0), -2);
        KIT.due("the least TREE", x.tree(MIN, 0), -2);
    }

    private static void faultNumbers() {
        KIT.says("FAULT i: what = 0 its number, 1 the FILE, 2 the BLOCK. BAD.");
        Desk x = Desk.mounted(Image.cells(20, 1, 1, 1, 0).root(0, "A", 0, 1, 1));
        KIT.due("both", x.faults(0), "2,0,1 8,0,-1 ");
        KIT.due("FAULT 2", x.fault(0, 2, 0), -2);
        KIT.due("FAULT -1", x.fault(0, -1, 0), -2);
        KIT.due("the greatest FAULT", x.fault(0, MAX, 0), -2);
        KIT.due("what = -1", x.fault(0, 0, -1), -2);
        KIT.due("what = 3", x.fault(0, 0, 3), -2);
        KIT.due("TREE 1", x.fault(1, 0, 0), -2);
        KIT.due("TREE -1", x.fault(-1, 0, 0), -2);
    }

    private static void ownerNumbers() {
        KIT.says("OWNER of a BLOCK (0 .. how many the VOLUME had, less 1). BAD.");
        Desk x = Desk.mounted(Image.cells(20, 1, 1, 1, 0).b2(4, 9));
        KIT.due("0", x.owner(0, 0), 1);
        KIT.due("19, beyond n", x.owner(0, 19), 0);
        KIT.due("20", x.owner(0, 20), -2);
        KIT.due("-1", x.owner(0, -1), -2);
        KIT.due("the greatest int", x.owner(0, MAX), -2);
        KIT.due("the least int", x.owner(0, MIN), -2);
        KIT.due("TREE 1", x.owner(1, 0), -2);
        KIT.due("TREE -1", x.owner(-1, 0), -2);
    }

    private static void freeNumbers() {
        KIT.says("Run i of BLOCKS with OWNER 0: what = 0 the first, 1 how many. BAD.");
        Desk x = Desk.mounted(Image.cells(20, 1, 1, 1, 0).cell(3, 1).cell(18, 1));
        KIT.due("runs", x.runs(0), "3+1 5+14 ");
        KIT.due("run 2", x.free(0, 2, 0), -2);
        KIT.due("run -1", x.free(0, -1, 0), -2);
        KIT.due("the greatest run", x.free(0, MAX, 0), -2);
        KIT.due("what = -1", x.free(0, 0, -1), -2);
        KIT.due("what = 2", x.free(0, 0, 2), -2);
        KIT.due("TREE 1", x.free(1, 0, 0), -2);
        KIT.due("TREE -1", x.free(-1, 0, 0), -2);
        KIT.due("to the last BLOCK", Desk.mounted(Image.cells(20, 1, 1, 1, 0).cell(17, 1)).runs(0), "3+15 19+1 ");
        KIT.due("from BLOCK 0 on", Desk.mounted(new Image(3)).runs(0), "0+3 ");
        KIT.due("none", Desk.mounted(new Image(1).entry(0, "a", '5', 0, 0)).tree(0, 8), 0);
    }
}
