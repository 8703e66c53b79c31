/** Boundary cases of "9 TIMES" and of promises 43 to 46, each by the sentence that names it. */
public final class EdgesTimesTest {
    private static final Kit KIT = new Kit("EdgesTimes");
    private static final int MAX = Integer.MAX_VALUE, MIN = Integer.MIN_VALUE;

    public static void main(String[] args) {
        numbersThatAreNot0();
        momentsOfCells();
        momentsOfNodes();
        momentsOfTapes();
        momentsOfInsideAndCutOut();
        momentsOfOpenNodes();
        lineByTheMoment();
        lineByTreeFileWhich();
        lineByOpenAndNode();
        lineAsItIsNow();
        lineOfAll();
        timeNumbers();
        doubtsOfMade();
        doubtsOfErased();
        doubtsOfNow();
        doubtsOfCells();
        doubtsOfWhatAFileHasNot();
        doubtsInTheirOrder();
        doubtsAsTheyAreNow();
        doubtNumbers();
        KIT.finish();
    }

    private static int nodeAt(int node) {
        return Image.nodeAt(node);
    }

    /** NODES with one file that has these moments. */
    private static Image node(long made, long altered, long erased) {
        return Image.nodes(10, 2).named(4, 0, 2, "a").node(2, 1, 0).moments(2, made, altered, erased);
    }

    /** CELLS with one file that has these moments. */
    private static Image cells(int zone, long made, long altered) {
        return Image.cells(10, 1, 1, 1, zone).root(0, "A", 0, 0, 0).rowMoments(128, made, altered);
    }

    // ---- THE LINE

    private static void numbersThatAreNot0() {
        KIT.says("A FILE has the moments made, altered, erased that its form tells and whose numbers are not 0 as they stand there (a moment may be 0 or below");
        KIT.due("all 0", Desk.mounted(node(0, 0, 0)).lines(), "");
        KIT.due("made is 1", Desk.mounted(node(1, 0, 0)).lines(), "1,1,0,0,0 ");
        KIT.due("altered is 1", Desk.mounted(node(0, 1, 0)).lines(), "1,1,0,0,1 ");
        KIT.due("erased is 1", Desk.mounted(node(0, 0, 1)).lines(), "1,1,0,0,2 ");
        KIT.due("of CELLS, 0 whatever the ZONE", Desk.mounted(cells(48, 0, 0)).lines(), "");
        KIT.due("of CELLS, 1", Desk.mounted(cells(0, 1, 0)).lines(), "2,2,0,0,0 ");
        KIT.due("a moment of 0", Desk.mounted(cells(2, 900, 0)).lines(), "0,2,0,0,0 ");
        KIT.due("a moment below 0", Desk.mounted(cells(2, 0, 899)).lines(), "-2,2,0,0,1 ");
    }

    private static void momentsOfCells() {
        KIT.says("CELLS: made, altered; twice the number, less 900 ZONE");
        KIT.due("ZONE 0", Desk.mounted(cells(0, 5, 7)).lines(), "10,2,0,0,0 14,2,0,0,1 ");
        KIT.due("ZONE 48", Desk.mounted(cells(48, 1, 21600)).lines(), "-43198,2,0,0,0 0,2,0,0,1 ");
        KIT.due("ZONE -48", Desk.mounted(cells(-48, 1, 2)).lines(), "43202,2,0,0,0 43204,2,0,0,1 ");
        KIT.due("ZONE 1", Desk.mounted(cells(1, 451, 0)).lines(), "2,2,0,0,0 ");
        KIT.due("ZONE -1", Desk.mounted(cells(-1, 451, 0)).lines(), "1802,2,0,0,0 ");
        KIT.due("the greatest", Desk.mounted(cells(-48, 0xFFFFFFFFL, 0x80000000L)).lines(), "4295010496,2,0,0,1 8589977790,2,0,0,0 ");
        KIT.due("of a LOST one", Desk.mounted(cells(0, 5, 7).b(128, 0xE5)).lines(), "10,2,0,0,0 14,2,0,0,1 ");
        KIT.due("of a folder", Desk.mounted(cells(0, 5, 7).b(128 + 11, 16)).lines(), "10,2,0,0,0 14,2,0,0,1 ");
    }

    private static void momentsOfNodes() {
        KIT.says("NODES: all three");
        KIT.due("all", Desk.mounted(node(3, 2, 1)).lines(), "1,1,0,0,2 2,1,0,0,1 3,1,0,0,0 ");
        KIT.due("the greatest", Desk.mounted(node(0xFFFFFFFFL, 0x80000000L, 0x7FFFFFFFL)).lines(), "2147483647,1,0,0,2 2147483648,1,0,0,1 4294967295,1,0,0,0 ");
        KIT.due("of a LOST one", Desk.mounted(Image.nodes(10, 2).moments(2, 5, 6, 7)).lines(), "5,1,0,0,0 6,1,0,0,1 7,1,0,0,2 ");
        KIT.due("the root has none", Desk.mounted(Image.nodes(10, 2).moments(1, 5, 6, 7)).lines(), "");
    }

    private static void momentsOfTapes() {
        KIT.says("TAPE, INSIDE: altered");
        Image m = new Image(4).entry(0, "a", '0', 0, 0).entry(1, "b", '5', 0, 1).entry(2, "c", '0', 0, 0xFFFFFFFFFL).entry(3, "c", '0', 0, 7);
        KIT.due("altered", Desk.mounted(m).lines(), "1,1,0,1,1 7,1,0,2,1 68719476735,1,0,3,1 ");
    }

    private static void momentsOfInsideAndCutOut() {
        KIT.says("TAPE, INSIDE: altered; CUT OUT: none); GRAIN 2 with CELLS, else 1.");
        String p = Formats.entry("a", "1", 9) + Formats.entry("b", "2", 0) + Formats.entry("c", "3", 0xFFFFFFFFL);
        int first = p.length();
        p += "PK\1\2\1a\0\0" + "PK\1\2\1b\21\0" + "PK\1\2\1c\42\0" + "PK\5\6\3" + Formats.low(first, 2);
        Desk x = Desk.mounted(new Image(10).text(64, p));
        KIT.due("CUT OUT", x.names(0) + x.lines(), "@1 ");
        x.open(0, 0);
        KIT.due("no FAULT", x.node(0, 0, 3), 0);
        KIT.due("INSIDE ones", x.inside(0, 3) + x.inside(0, 6) + x.inside(0, 9), 6);
        KIT.due("altered, not that of 0", x.lines(), "9,1,0,1,1 4294967295,1,0,3,1 ");
    }

    private static String times(int... seconds) {
        StringBuilder s = new StringBuilder("\u0089CH\n");
        for (int t : seconds) s.append(Formats.chunk("tIME", Formats.high(t & 0xFFFFFFFFL, 4)));
        return s.append(Formats.chunk("IEND", "")).toString();
    }

    private static void momentsOfOpenNodes() {
        KIT.says("and of OPEN FILES their NODES of KIND 12 (which 3, GRAIN 1)");
        String t = times(0, 5, -1);
        Image m = Image.cells(10, 1, 1, 1, 9).root(0, "A", 0, 2, t.length()).chain(2, 2).text(3 * 64, t);
        Desk x = Desk.mounted(m);
        KIT.due("before it is OPEN", x.line(), 0);
        x.open(0, 0);
        KIT.due("0, 5 and without sign", x.lines(), "0,1,0,0,3 5,1,0,0,3 4294967295,1,0,0,3 ");
        Desk y = Desk.mounted(new Image(3).text(64, t));
        y.open(0, 0);
        KIT.due("of one CUT OUT", y.lines(), "0,1,0,0,3 5,1,0,0,3 4294967295,1,0,0,3 ");
    }

    private static void lineByTheMoment() {
        KIT.says("by the moment, then TREE, FILE, which (of 3 then OPEN and NODE)");
        Image m = Image.nodes(10, 8).named(7, 0, 2, "a").named(7, 1, 3, "b").named(7, 2, 4, "c").node(2, 1, 0).moments(2, 9, 5, 0).node(3, 1, 0).moments(3, 2, 9, 1).node(4, 1, 0).moments(4, 5, 1, 9);
        KIT.due("the line", Desk.mounted(m).lines(), "1,1,0,1,2 1,1,0,2,1 2,1,0,1,0 5,1,0,0,1 5,1,0,2,0 9,1,0,0,0 9,1,0,1,1 9,1,0,2,2 ");
        Desk x = new Desk();
        x.add(cells(48, 1, 21601));
        x.add(node(0xFFFFFFFFL, 1, 2));
        x.mount(1);
        x.mount(0);
        KIT.due("below 0 first, above the greatest int last", x.lines(), "-43198,2,1,0,0 1,1,0,0,1 2,1,0,0,2 2,2,1,0,1 4294967295,1,0,0,0 ");
    }

    private static void lineByTreeFileWhich() {
        KIT.says("by the moment, then TREE, FILE, which");
        Image m = Image.nodes(10, 8).named(7, 0, 2, "a").named(7, 1, 2, "b").node(2, 1, 0).moments(2, 5, 5, 5);
        Desk x = Desk.mounted(m);
        x.mount(0);
        KIT.due("all of one moment", x.lines(), "5,1,0,0,0 5,1,0,0,1 5,1,0,0,2 5,1,0,1,0 5,1,0,1,1 5,1,0,1,2 5,1,1,0,0 5,1,1,0,1 5,1,1,0,2 5,1,1,1,0 5,1,1,1,1 5,1,1,1,2 ");
    }

    private static void lineByOpenAndNode() {
        KIT.says("(of 3 then OPEN and NODE)");
        String t = times(7, 7);
        Image m = Image.nodes(12, 8).named(7, 0, 2, "a").named(7, 1, 3, "b").node(2, 1, t.length(), 8).moments(2, 7, 0, 7).node(3, 1, t.length(), 9).moments(3, 0, 7, 0).takes(8, 9).text(8 * 64, t).text(9 * 64, t);
        Desk x = Desk.mounted(m);
        x.mount(0);
        x.open(0, 1);
        x.open(1, 0);
        x.open(0, 0);
        x.open(0, 0);
        KIT.due("behind the FILE'S own", x.lines(), "7,1,0,0,0 7,1,0,0,2 7,1,0,0,3 7,1,0,0,3 7,1,0,0,3 7,1,0,0,3 7,1,0,1,1 7,1,0,1,3 7,1,0,1,3 7,1,1,0,0 7,1,1,0,2 7,1,1,0,3 7,1,1,0,3 7,1,1,1,1 ");
    }

    private static void lineAsItIsNow() {
        KIT.says("THE LINE as it is now: how many moments.");
        Desk x = Desk.mounted(node(3, 2, 0));
        KIT.due("before line()", x.time(0, 0), -2);
        KIT.due("line()", x.line(), 2);
        x.mount(0);
        KIT.says("Moment i of the latest line()");
        KIT.due("the latest", x.time(1, 0) + " " + x.time(2, 0), "3 -2");
        KIT.due("line() now", x.line(), 4);
        KIT.due("the latest now", x.time(3, 2), 1);
        Desk y = new Desk();
        KIT.due("without TREES", y.line(), 0);
        KIT.due("moment 0", y.time(0, 0), -2);
    }

    private static void lineOfAll() {
        KIT.says("THE LINE: of all TREES' FILES these (which: 0, 1, 2), and of OPEN FILES their NODES of KIND 12");
        Image m = Image.nodes(60, 64).node(1, 2, 39 * 64, 35, 35, 35, 35, 35, 35, 35).further(1, 36).takes(36).named(35, 0, 2, "a").named(35, 1, 2, "b").node(2, 1, 64, 37).moments(2, 30, 20, 10);
        for (int k = 0; k < 32; k++) m.b2(36 * 64 + 2 * k, 35);
        for (int k = 3; k < 43; k++) m.moments(k, 3, 2, 1);
        int[] seconds = new int[59];
        for (int i = 0; i < 59; i++) seconds[i] = 59 - i;
        m.takes(37).text(38 * 64, times(seconds));
        Desk x = Desk.mounted(m);
        for (int i = 1; i < 6; i++) x.mount(0);
        KIT.due("FILES of each", x.tree(5, 1) + " " + x.tree(5, 2) + " " + x.tree(5, 3), "60 40 1");
        for (int i = 0; i < 8; i++) KIT.due("OPEN " + i, x.open(5, 100), i);
        KIT.due("of OPEN 7", x.opened(7, 0), 119 + 1);
        KIT.due("6 times 100 times 3, and 8 times 59", x.line(), 1800 + 472);
        KIT.due("the first", x.time(0, 0) + " " + x.time(0, 2) + " " + x.time(0, 3) + " " + x.time(0, 4), "1 0 60 2");
        KIT.due("the last", x.time(2271, 0) + " " + x.time(2271, 2) + " " + x.time(2271, 3) + " " + x.time(2271, 4), "59 5 100 3");
        KIT.due("behind it", x.time(2272, 0), -2);
        KIT.due("DOUBTS, three of each FILE", x.doubts(), 6 * 3 * 100);
    }

    private static void timeNumbers() {
        KIT.says("Moment i of the latest line(): what = 0 it, 1 GRAIN, 2 TREE, 3 FILE, 4 which. BAD.");
        Desk x = Desk.mounted(node(3, 2, 0));
        x.line();
        KIT.due("moment 2", x.time(2, 0), -2);
        KIT.due("moment -1", x.time(-1, 0), -2);
        KIT.due("the greatest moment", x.time(MAX, 0), -2);
        KIT.due("the least moment", x.time(MIN, 0), -2);
        KIT.due("what = -1", x.time(0, -1), -2);
        KIT.due("what = 5", x.time(0, 5), -2);
        KIT.due("what = the greatest int", x.time(0, MAX), -2);
        KIT.due("moment 1", x.time(1, 4), 0);
    }

    // ---- DOUBTS

    private static String doubts(Image m, int now) {
        Desk x = Desk.mounted(m);
        x.tick(Math.min(now, 1000000000));
        x.tick(Math.max(0, now - 1000000000));
        return x.allDoubts();
    }

    private static void doubtsOfMade() {
        KIT.says("DOUBTS, by TREE and FILE: 1 made is not before altered and GRAIN");
        KIT.due("before altered", doubts(node(9, 10, 0), 99), "");
        KIT.due("with altered", doubts(node(10, 10, 0), 99), "");
        KIT.due("altered and GRAIN", doubts(node(11, 10, 0), 99), "0,0,1 ");
        KIT.due("behind that", doubts(node(12, 10, 0), 99), "0,0,1 ");
        KIT.due("the greatest", doubts(node(0xFFFFFFFFL, 10, 0), 99), "0,0,1 ");
        KIT.due("the greatest altered", doubts(node(1, 0xFFFFFFFFL, 0), 2000000000), "0,0,3 ");
    }

    private static void doubtsOfErased() {
        KIT.says("2 altered not before erased and GRAIN (both: if it has both)");
        KIT.due("before erased", doubts(node(0, 9, 10), 99), "");
        KIT.due("with erased", doubts(node(0, 10, 10), 99), "");
        KIT.due("erased and GRAIN", doubts(node(0, 11, 10), 99), "0,0,2 ");
        KIT.due("behind that", doubts(node(0, 12, 10), 99), "0,0,2 ");
        KIT.due("the greatest erased", doubts(node(0, 10, 0xFFFFFFFFL), 99), "");
        KIT.due("of a LOST one", doubts(Image.nodes(10, 2).moments(2, 9, 8, 7), 99), "0,0,1 0,0,2 ");
    }

    private static void doubtsOfNow() {
        KIT.says("3 altered is after NOW.");
        KIT.due("before NOW", doubts(node(0, 9, 0), 10), "");
        KIT.due("NOW", doubts(node(0, 10, 0), 10), "");
        KIT.due("one after NOW", doubts(node(0, 11, 0), 10), "0,0,3 ");
        KIT.due("1 after 0", doubts(node(0, 1, 0), 0), "0,0,3 ");
        KIT.due("at the last NOW", doubts(node(0, 2000000000, 0), 2000000000), "");
        KIT.due("after the last NOW", doubts(node(0, 2000000001, 0), 2000000000), "0,0,3 ");
        KIT.due("made and erased are none", doubts(node(100, 0, 100), 10), "");
        KIT.due("of a TAPE", doubts(new Image(3).entry(0, "a", '0', 0, 11).entry(1, "b", '5', 0, 10).entry(2, "c", '0', 0, 0xFFFFFFFFFL), 10), "0,0,3 0,2,3 ");
        Desk x = Desk.mounted(new Image(4).text(64, Formats.pack("a", "1", "b", "2")));
        x.open(0, 0);
        x.inside(0, 3);
        x.inside(0, 6);
        x.tick(150);
        KIT.due("of INSIDE ones, of 100 and 200", x.allDoubts(), "0,2,3 ");
    }

    private static void doubtsOfCells() {
        KIT.says("GRAIN 2 with CELLS, else 1.");
        KIT.due("with altered", doubts(cells(0, 10, 10), 99), "");
        KIT.due("altered and GRAIN", doubts(cells(0, 11, 10), 99), "0,0,1 ");
        KIT.due("NOW", doubts(cells(0, 0, 10), 20), "");
        KIT.due("one after NOW", doubts(cells(0, 0, 10), 19), "0,0,3 ");
        KIT.due("NOW in its ZONE", doubts(cells(1, 0, 460), 20), "");
        KIT.due("one after NOW in its ZONE", doubts(cells(1, 0, 460), 19), "0,0,3 ");
        KIT.due("below 0", doubts(cells(48, 0, 21599), 0), "");
        KIT.due("0", doubts(cells(48, 0, 21600), 0), "");
        KIT.due("above 0", doubts(cells(48, 0, 21601), 1), "0,0,3 ");
        KIT.due("the greatest", doubts(cells(-48, 0xFFFFFFFFL, 0xFFFFFFFFL), 2000000000), "0,0,3 ");
    }

    private static void doubtsOfWhatAFileHasNot() {
        KIT.says("(both: if it has both)");
        KIT.due("no altered", doubts(node(9, 0, 0), 99), "");
        KIT.due("no altered, but erased", doubts(node(9, 0, 1), 99), "");
        KIT.due("no made", doubts(node(0, 9, 0), 99), "");
        KIT.due("no made, no erased, after NOW", doubts(node(0, 9, 0), 1), "0,0,3 ");
        KIT.due("of CELLS, no altered", doubts(cells(48, 9, 0), 99), "");
        KIT.due("of CELLS, no made", doubts(cells(0, 0, 9), 99), "");
    }

    private static void doubtsInTheirOrder() {
        KIT.says("DOUBTS, by TREE and FILE");
        Image m = Image.nodes(10, 8).named(7, 0, 2, "a").named(7, 1, 3, "b").named(7, 2, 4, "c").node(2, 1, 0).moments(2, 0, 50, 0).node(3, 1, 0).moments(3, 60, 50, 40).node(4, 1, 0).moments(4, 0, 50, 40);
        Desk x = Desk.mounted(m);
        x.mount(0);
        x.tick(45);
        KIT.due("all", x.allDoubts(), "0,0,3 0,1,1 0,1,2 0,1,3 0,2,2 0,2,3 1,0,3 1,1,1 1,1,2 1,1,3 1,2,2 1,2,3 ");
    }

    private static void doubtsAsTheyAreNow() {
        KIT.says("DOUBTS as they are now: how many.");
        Desk x = Desk.mounted(node(0, 10, 0));
        KIT.due("before doubts()", x.doubt(0, 0), -2);
        KIT.due("at 0", x.doubts(), 1);
        x.tick(10);
        KIT.says("DOUBT i of the latest doubts()");
        KIT.due("the latest", x.doubt(0, 2), 3);
        KIT.due("at 10", x.doubts(), 0);
        KIT.due("none now", x.doubt(0, 0), -2);
        KIT.due("without TREES", new Desk().doubts(), 0);
    }

    private static void doubtNumbers() {
        KIT.says("what = 0 the TREE, 1 the FILE, 2 which (1, 2, 3). BAD.");
        Desk x = Desk.mounted(node(0, 10, 0));
        x.doubts();
        KIT.due("DOUBT 0", x.doubt(0, 0) + " " + x.doubt(0, 1) + " " + x.doubt(0, 2), "0 0 3");
        KIT.due("DOUBT 1", x.doubt(1, 0), -2);
        KIT.due("DOUBT -1", x.doubt(-1, 0), -2);
        KIT.due("the greatest DOUBT", x.doubt(MAX, 0), -2);
        KIT.due("the least DOUBT", x.doubt(MIN, 0), -2);
        KIT.due("what = -1", x.doubt(0, -1), -2);
        KIT.due("what = 3", x.doubt(0, 3), -2);
    }
}
