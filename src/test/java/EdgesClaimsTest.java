/** Boundary cases of "10 CLAIMS and ACTS" and of promises 47 to 54, each by the sentence that names it. */
public final class EdgesClaimsTest {
    private static final Kit KIT = new Kit("EdgesClaims");
    private static final int MAX = Integer.MAX_VALUE, MIN = Integer.MIN_VALUE;

    public static void main(String[] args) {
        claimKinds();
        claimFiles();
        claimsOfInsideOnes();
        claims40();
        crcClaims();
        byteClaims();
        sameClaims();
        gradesOfFiles();
        gradesOfSpoiltSectors();
        gradesThen();
        gradesOfBoth();
        gradesOfFurtherOnes();
        gradesOfJoinedVolumes();
        checkedNow();
        checkedByBlocksAndSizesThen();
        claimsOfItsTree();
        claimedNumbers();
        checkNumbers();
        acts100();
        actsOfAnyNumbers();
        linksOfActs();
        altersOfActs();
        chains();
        counts();
        KIT.finish();
    }

    private static int crc(String s) {
        return (int) Kit.crc(Kit.raw(s));
    }

    /** NODES: 0 a "abc", 1 b "abc", 2 c "abcd", 3 d (a folder), 4 e (no bytes), 5 #7 (LOST, "abc", GRADE 4); BLOCKS 8 to 12. */
    private static Image files() {
        Image m = Image.nodes(20, 8).node(1, 2, 128, 7, 13).takes(8, 9, 10, 11, 13);
        m.named(7, 0, 2, "a").named(7, 1, 3, "b").named(7, 2, 4, "c").named(7, 3, 5, "d").named(13, 0, 6, "e");
        m.node(2, 1, 3, 8).node(3, 1, 3, 9).node(4, 1, 4, 10).node(5, 2, 64, 11).node(6, 1, 0).node(7, 0, 3, 12).moments(7, 0, 0, 5);
        return m.text(8 * 64, "abc").text(9 * 64, "abc").text(10 * 64, "abcd").text(12 * 64, "abc");
    }

    private static Desk desk() {
        Desk x = Desk.mounted(files());
        KIT.due("names", x.names(0), "a b c d e #7 ");
        return x;
    }

    // ---- CLAIMS

    private static void claimKinds() {
        KIT.says("A CLAIM: its number (whether true or not). BAD; FULL: 40.");
        Desk x = desk();
        KIT.due("kind 0", x.claim(0, 0, 0, 0), -2);
        KIT.due("kind 4", x.claim(0, 0, 4, 0), -2);
        KIT.due("kind -1", x.claim(0, 0, -1, 0), -2);
        KIT.due("the greatest kind", x.claim(0, 0, MAX, 0), -2);
        KIT.due("none came", x.count(7), 0);
        KIT.due("kind 1, not true", x.claim(0, 0, 1, 0), 0);
        KIT.due("kind 2, not true", x.claim(0, 0, 2, 0), 1);
        KIT.due("kind 3, not true", x.claim(0, 0, 3, 2), 2);
        KIT.due("checks", x.check(0) + x.check(1) + x.check(2), 0);
        KIT.says("(a is not below 0)");
        KIT.due("a = -1 of kind 2", x.claim(0, 0, 2, -1), -2);
        KIT.due("the least a of kind 2", x.claim(0, 0, 2, MIN), -2);
        KIT.due("the greatest a of kind 2", x.claim(0, 0, 2, MAX), 3);
        KIT.due("a = 0 of kind 2", x.claim(0, 0, 2, 0), 4);
        KIT.due("a = -1 of kind 1", x.claim(0, 0, 1, -1), 5);
        KIT.due("the least a of kind 1", x.claim(0, 0, 1, MIN), 6);
    }

    private static void claimFiles() {
        KIT.says("3: FILE a of the TREE has the same bytes (no INSIDE one either)");
        Desk x = desk();
        int[] none = {-1, 6, MAX, MIN};
        for (int f : none) {
            KIT.due("FILE " + f, x.claim(0, f, 1, 0), -2);
            KIT.due("a is FILE " + f, x.claim(0, 0, 3, f), -2);
        }
        KIT.due("TREE 1", x.claim(1, 0, 1, 0), -2);
        KIT.due("TREE -1", x.claim(-1, 0, 1, 0), -2);
        KIT.due("FILE 5", x.claim(0, 5, 3, 0), 0);
        KIT.due("a is FILE 5", x.claim(0, 0, 3, 5), 1);
        KIT.due("a is the FILE", x.claim(0, 0, 3, 0), 2);
        KIT.due("of a folder", x.claim(0, 3, 1, crc(Kit.many('\0', 64))), 3);
        KIT.due("checks", x.check(0) + " " + x.check(1) + " " + x.check(2) + " " + x.check(3), "1 1 1 1");
    }

    private static void claimsOfInsideOnes() {
        KIT.says("CLAIMS (40 at most) of a FILE with its TREE'S VOLUME (not INSIDE)");
        String p = Formats.pack("i", "1");
        Desk x = Desk.mounted(new Image(5).entry(0, "p", '0', p.length(), 0).text(64, p).text(192, p));
        x.open(0, 0);
        x.inside(0, 3);
        KIT.due("names", x.names(0), "p @3 i ");
        for (int kind = 1; kind <= 3; kind++) KIT.due("of an INSIDE one, kind " + kind, x.claim(0, 2, kind, 0), -2);
        KIT.due("a is an INSIDE one", x.claim(0, 0, 3, 2), -2);
        KIT.due("one CUT OUT", x.claim(0, 1, 3, 0), 0);
        KIT.due("a is one CUT OUT", x.claim(0, 0, 3, 1), 1);
        KIT.due("2 of kind 1", x.claim(0, 0, 1, 2), 2);
        KIT.due("checks", x.check(0) + " " + x.check(1) + " " + x.check(2), "1 1 0");
        KIT.due("GRADES", x.claimed(0, 0) + " " + x.claimed(1, 0) + " " + x.claimed(2, 0), "2 2 5");
    }

    private static void claims40() {
        KIT.says("BAD; FULL: 40.");
        Desk x = desk();
        for (int i = 0; i < 40; i++) KIT.due("CLAIM " + i, x.claim(0, i % 6, 2, i), i);
        KIT.due("a 41st", x.claim(0, 0, 1, 0), -3);
        KIT.due("count(7)", x.count(7), 40);
        KIT.due("the last", x.claimed(39, 2) + " " + x.claimed(39, 3), "3 39");
        KIT.due("behind it", x.claimed(40, 0) + " " + x.check(40), "-2 -2");
        KIT.says("BAD goes first in all calls");
        KIT.due("a 41st of no FILE", x.claim(0, 6, 1, 0), -2);
        KIT.due("a 41st of no kind", x.claim(0, 0, 0, 0), -2);
    }

    private static void crcClaims() {
        KIT.says("kind 1: the CRC of its bytes is a");
        Desk x = desk();
        KIT.due("true", x.check(x.claim(0, 0, 1, crc("abc"))), 1);
        KIT.due("one more", x.check(x.claim(0, 0, 1, crc("abc") + 1)), 0);
        KIT.due("up to its end", x.check(x.claim(0, 2, 1, crc("abcd"))), 1);
        KIT.due("of no bytes", x.check(x.claim(0, 4, 1, 0)), 1);
        KIT.due("of no bytes, not 1", x.check(x.claim(0, 4, 1, 1)), 0);
        Desk y = Desk.mounted(new Image(3).entry(0, "f", '0', 4, 0).text(64, "\u00ff\u00ff\u00ff\u00ff"));
        KIT.due("its greatest is -1", y.check(y.claim(0, 0, 1, -1)), 1);
        KIT.due("below 0", crc("a") < 0 ? 1 : 0, 1);
        KIT.due("a", Desk.mounted(new Image(3).entry(0, "f", '0', 1, 0).text(64, "a")).claim(0, 0, 1, crc("a")), 0);
    }

    private static void byteClaims() {
        KIT.says("2: byte a / 256 of it is a % 256 (a is not below 0)");
        StringBuilder s = new StringBuilder();
        for (int i = 0; i < 300; i++) s.append((char) (i * 7 & 255));
        Image m = new Image(7).entry(0, "f", '0', 300, 0).text(64, s.toString()).b(64 + 300, 9);
        Desk x = Desk.mounted(m);
        int[] places = {0, 1, 63, 64, 128, 255, 256, 257, 299};
        for (int at : places) {
            KIT.due("byte " + at, x.check(x.claim(0, 0, 2, 256 * at + s.charAt(at))), 1);
            KIT.due("another byte " + at, x.check(x.claim(0, 0, 2, 256 * at + (s.charAt(at) ^ 1))), 0);
        }
        KIT.due("behind its end", x.check(x.claim(0, 0, 2, 256 * 300 + 9)), 0);
        KIT.due("behind its end, 0", x.check(x.claim(0, 0, 2, 256 * 301)), 0);
        KIT.due("behind its BLOCKS", x.check(x.claim(0, 0, 2, 256 * 320)), 0);
        KIT.due("the greatest", x.check(x.claim(0, 0, 2, MAX)), 0);
        Desk y = desk();
        KIT.due("of no bytes", y.check(y.claim(0, 4, 2, 0)), 0);
        Desk z = Desk.mounted(new Image(3).entry(0, "f", '0', 1, 0).b(64, 255));
        KIT.due("255", z.check(z.claim(0, 0, 2, 255)), 1);
        KIT.due("256 is byte 1", z.check(z.claim(0, 0, 2, 256)), 0);
    }

    private static void sameClaims() {
        KIT.says("3: FILE a of the TREE has the same bytes");
        Desk x = desk();
        KIT.due("a and b", x.check(x.claim(0, 0, 3, 1)), 1);
        KIT.due("a and c, one byte longer", x.check(x.claim(0, 0, 3, 2)), 0);
        KIT.due("c and a", x.check(x.claim(0, 2, 3, 0)), 0);
        KIT.due("a and no bytes", x.check(x.claim(0, 0, 3, 4)), 0);
        KIT.due("no bytes and no bytes", x.check(x.claim(0, 4, 3, 4)), 1);
        x.poke(0, 9 * 64 + 3, 9);
        KIT.due("what is behind their end does not matter", x.check(0), 1);
        x.poke(0, 9 * 64 + 2, 9);
        KIT.due("their last byte does", x.check(0), 0);
        x.poke(0, 8 * 64 + 2, 9);
        KIT.due("the same again", x.check(0), 1);
    }

    private static void gradesOfFiles() {
        KIT.says("GRADE: that of the FILE, 1 less (0 at least) if a SECTOR that is read for its BLOCKS is SPOILT then");
        Image m = files().node(8, 0, 64, 6).moments(8, 0, 0, 6);
        Desk x = Desk.mounted(m);
        KIT.due("of a living one", x.claimed(x.claim(0, 0, 1, 0), 0), 5);
        KIT.due("of LOST ones", x.claimed(x.claim(0, 5, 1, 0), 0) + " " + x.claimed(x.claim(0, 6, 1, 0), 0), "4 1");
        x.spoil(0, 12, true);
        KIT.due("1 less", x.claimed(x.claim(0, 5, 1, 0), 0), 3);
        KIT.due("without a SECTOR", x.claimed(x.claim(0, 6, 1, 0), 0), 1);
        Image l = Image.cells(10, 1, 1, 1, 0).root(0, "\u00e5", 0, 4, 99).cell(5, 1);
        for (int c = 6; c < 9; c++) l.cell(c, 1);
        Desk y = Desk.mounted(l);
        KIT.due("of CELLS", y.field(0, 0, 5), 2);
        y.spoil(0, 5, true);
        KIT.due("1 less, too", y.claimed(y.claim(0, 0, 1, 0), 0), 1);
        Image n = Image.nodes(10, 4).node(2, 0, 64, 6).moments(2, 0, 0, 5).takes(6);
        Desk z = Desk.mounted(n);
        KIT.due("of GRADE 1", z.field(0, 0, 5), 1);
        z.spoil(0, 6, true);
        KIT.due("0 at least", z.claimed(z.claim(0, 0, 1, 0), 0), 0);
    }

    private static void gradesOfSpoiltSectors() {
        KIT.says("if a SECTOR that is read for its BLOCKS is SPOILT then");
        Image m = Image.cells(20, 1, 1, 1, 0).root(0, "A", 0, 2, 70).chain(2, 5);
        int[] sectors = {2, 3, 4, 5, 6, 7};
        for (int s : sectors) {
            Desk x = Desk.mounted(m);
            x.spoil(0, s, true);
            KIT.due("SECTOR " + s, x.claimed(x.claim(0, 0, 1, 0), 0), s >= 3 && s <= 6 ? 4 : 5);
        }
        Desk all = Desk.mounted(m);
        for (int s : sectors) all.spoil(0, s, true);
        KIT.due("all of them", all.claimed(all.claim(0, 0, 1, 0), 0), 4);
    }

    private static void gradesThen() {
        KIT.says("is SPOILT then");
        Desk x = desk();
        x.claim(0, 0, 1, 0);
        x.spoil(0, 8, true);
        x.claim(0, 0, 1, 0);
        x.spoil(0, 8, false);
        x.claim(0, 0, 1, 0);
        KIT.due("before, then, after", x.claimed(0, 0) + " " + x.claimed(1, 0) + " " + x.claimed(2, 0), "5 4 5");
        Desk y = Desk.of(files().spoil(8));
        y.mount(0);
        KIT.due("SPOILT when it was MOUNTED", y.claimed(y.claim(0, 0, 1, 0), 0), 4);
    }

    private static void gradesOfBoth() {
        KIT.says("of 3 the lesser one of both FILES' so");
        Desk x = desk();
        KIT.due("5 and 5", x.claimed(x.claim(0, 0, 3, 1), 0), 5);
        KIT.due("5 and 4", x.claimed(x.claim(0, 0, 3, 5), 0), 4);
        KIT.due("4 and 5", x.claimed(x.claim(0, 5, 3, 0), 0), 4);
        x.spoil(0, 9, true);
        KIT.due("5, and 5 less 1", x.claimed(x.claim(0, 0, 3, 1), 0), 4);
        KIT.due("5 less 1, and 5", x.claimed(x.claim(0, 1, 3, 0), 0), 4);
        KIT.due("5 less 1, and 4", x.claimed(x.claim(0, 1, 3, 5), 0), 4);
        x.spoil(0, 12, true);
        KIT.due("5, and 4 less 1", x.claimed(x.claim(0, 0, 3, 5), 0), 3);
        KIT.due("5 less 1 twice is 4", x.claimed(x.claim(0, 1, 3, 1), 0), 4);
        KIT.due("of kind 1 a is no FILE", x.claimed(x.claim(0, 0, 1, 5), 0), 5);
        KIT.due("of kind 2 neither", x.claimed(x.claim(0, 0, 2, 5), 0), 5);
    }

    private static void gradesOfFurtherOnes() {
        KIT.says("(that of the BLOCK of further ones does not count)");
        Image m = Image.nodes(20, 2).named(4, 0, 2, "a").node(2, 1, 449, 5, 6, 7, 8, 9, 10, 11).further(2, 12).b2(12 * 64, 13).takes(5, 6, 7, 8, 9, 10, 11, 12, 13);
        Desk x = Desk.mounted(m);
        x.spoil(0, 12, true);
        KIT.due("it", x.claimed(x.claim(0, 0, 1, 0), 0), 5);
        x.spoil(0, 13, true);
        KIT.due("the eighth place", x.claimed(x.claim(0, 0, 1, 0), 0), 4);
        Desk y = Desk.mounted(m);
        y.spoil(0, 11, true);
        KIT.due("the seventh place", y.claimed(y.claim(0, 0, 1, 0), 0), 4);
        Desk z = Desk.mounted(m.b2(Image.nodeAt(2) + 16, 12));
        z.spoil(0, 12, true);
        KIT.due("a place, too", z.claimed(z.claim(0, 0, 1, 0), 0), 4);
    }

    /** Three PICTURES of eight SECTORS and what is joined of them; a TAPE of "a", without bytes, and "b", of four BLOCKS. */
    private static Desk joined(int kind, int a, int b, int c) {
        Desk x = new Desk();
        for (int p = 0; p < 3; p++) {
            x.blank(8);
            x.volume(p, 0, 8);
        }
        int v = x.join(kind, a, b, c);
        x.saved(v, "a", "");
        x.saved(v, "b", Kit.many('b', 256));
        KIT.due("BLOCKS", x.tree(x.mount(v), 1) + x.blocksOf(0, 1), "22 3 4 5 ");
        return x;
    }

    private static String grades(int kind, int a, int b, int c) {
        StringBuilder s = new StringBuilder();
        for (int p = 0; p < 3; p++) {
            for (int sector = 0; sector < 8; sector++) {
                Desk x = joined(kind, a, b, c);
                x.spoil(p, sector, true);
                if (x.claimed(x.claim(0, 1, 1, 0), 0) == 4) s.append(1000 * p + sector).append(' ');
            }
        }
        return s.toString();
    }

    private static void gradesOfJoinedVolumes() {
        KIT.says("if a SECTOR that is read for its BLOCKS is SPOILT then");
        KIT.due("LINE", grades(1, 1, 0, -1), "1002 1003 1004 1005 ");
        KIT.due("STRIPES of two", grades(2, 1, 0, -1), "1 2 1001 1002 ");
        KIT.due("STRIPES of three", grades(2, 1, 0, 2), "1 1001 2000 2001 ");
        KIT.due("MIRROR: the first alone", grades(3, 1, 0, -1), "1002 1003 1004 1005 ");
        KIT.due("MIRROR without the first", grades(3, -1, 0, -1), "2 3 4 5 ");
        KIT.due("PARITY: not the parity", grades(4, 0, 1, 2), "1 2 1002 2001 ");
        KIT.due("PARITY without the second: both others of what is reckoned", grades(4, 0, -1, 2), "1 2 2001 2002 ");
        KIT.due("PARITY without the first", grades(4, -1, 1, 2), "1001 1002 2001 2002 ");
        KIT.due("PARITY without the third", grades(4, 0, 1, -1), "1 2 1001 1002 ");
    }

    private static void checkedNow() {
        KIT.says("They are CHECKED by the VOLUME'S bytes as they are at that time, by the BLOCKS and sizes that were told when it was claimed.");
        Desk x = desk();
        x.poke(0, 8 * 64, 'z');
        KIT.due("changed before it is claimed", x.check(x.claim(0, 0, 2, 'a')), 0);
        x.claim(0, 0, 1, crc("abc"));
        KIT.due("changed", x.check(1), 0);
        x.poke(0, 8 * 64, 'a');
        KIT.due("changed back", x.check(0) + x.check(1), 2);
        x.spoil(0, 8, true);
        KIT.due("SPOILT", x.check(0) + x.check(1), 0);
        KIT.due("its bytes are 0", x.check(x.claim(0, 0, 1, crc("\0\0\0"))), 1);
        x.spoil(0, 8, false);
        KIT.due("not any more", x.check(0) + x.check(1) * 10 + x.check(2) * 100, 11);
        KIT.due("the TREE stays", x.content(0, 0, 0), 'a');
    }

    private static void checkedByBlocksAndSizesThen() {
        KIT.says("by the BLOCKS and sizes that were told when it was claimed");
        Desk x = desk();
        x.claim(0, 0, 1, crc("abc"));
        x.saved(0, "a", "");
        KIT.due("a file that lost its BLOCKS", x.check(0), 1);
        x.format(0, 3, 0);
        KIT.due("another form", x.check(0), 0);
        KIT.due("its bytes are 0", x.check(x.claim(0, 0, 1, crc("\0\0\0"))), 1);
        Image m = Image.nodes(20, 2).named(4, 0, 2, "a").node(2, 1, 128, 6, 0).takes(6).fill(6 * 64, 64, 'x');
        Desk y = Desk.mounted(m);
        KIT.due("a place without a BLOCK is 0s", y.check(y.claim(0, 0, 1, crc(Kit.many('x', 64) + Kit.many('\0', 64)))), 1);
        KIT.due("behind another FILE'S bytes, too", y.check(y.claim(0, 0, 2, 64 * 256)), 1);
    }

    private static void claimsOfItsTree() {
        KIT.says("CLAIM i: what = 0 its GRADE, 1 its kind, 2 its FILE, 3 its a, 4 its VOLUME. BAD.");
        Desk x = new Desk();
        x.add(new Image(3).entry(0, "x", '0', 1, 0).text(64, "x"));
        x.add(files());
        x.format(0, 3, 0);
        x.mount(0);
        x.mount(1);
        x.saved(0, "x", "x");
        x.mount(0);
        KIT.due("of TREE 1", x.claim(1, 5, 3, 0), 0);
        KIT.due("of TREE 2", x.claim(2, 0, 2, 'x'), 1);
        KIT.due("of TREE 0, that has none", x.claim(0, 0, 1, crc("x")), -2);
        KIT.due("of TREE 2, too", x.claim(2, 0, 1, crc("x")), 2);
        StringBuilder s = new StringBuilder();
        for (int i = 0; i < 3; i++) for (int what = 0; what < 5; what++) s.append(x.claimed(i, what)).append(' ');
        KIT.due("claimed", s.toString(), "4 3 5 0 1 5 2 0 120 0 5 1 0 " + crc("x") + " 0 ");
        KIT.due("checks", x.check(0) + " " + x.check(1) + " " + x.check(2), "1 1 1");
        x.poke(1, 12 * 64, 'z');
        KIT.due("of its VOLUME", x.check(0) + " " + x.check(1), "0 1");
        x.poke(0, 64, 'z');
        KIT.due("of its VOLUME, too", x.check(1) + " " + x.check(2), "0 0");
        x.spoil(0, 2, true);
        KIT.due("SECTORS of its VOLUME", x.claimed(x.claim(1, 0, 1, 0), 0), 5);
        x.spoil(1, 8, true);
        KIT.due("SECTORS of its VOLUME, too", x.claimed(x.claim(1, 0, 1, 0), 0), 4);
    }

    private static void claimedNumbers() {
        KIT.says("CLAIM i: what = 0 its GRADE, 1 its kind, 2 its FILE, 3 its a, 4 its VOLUME. BAD.");
        Desk x = desk();
        KIT.due("before any", x.claimed(0, 0), -2);
        x.claim(0, 0, 1, 7);
        KIT.due("CLAIM 1", x.claimed(1, 0), -2);
        KIT.due("CLAIM -1", x.claimed(-1, 0), -2);
        KIT.due("the greatest CLAIM", x.claimed(MAX, 0), -2);
        KIT.due("the least CLAIM", x.claimed(MIN, 0), -2);
        KIT.due("what = -1", x.claimed(0, -1), -2);
        KIT.due("what = 5", x.claimed(0, 5), -2);
        KIT.due("what = the greatest int", x.claimed(0, MAX), -2);
    }

    private static void checkNumbers() {
        KIT.says("Whether a CLAIM is true by the bytes now (1 or 0). BAD.");
        Desk x = desk();
        KIT.due("before any", x.check(0), -2);
        x.claim(0, 0, 1, crc("abc"));
        KIT.due("CLAIM 0", x.check(0), 1);
        KIT.due("CLAIM 1", x.check(1), -2);
        KIT.due("CLAIM -1", x.check(-1), -2);
        KIT.due("the greatest CLAIM", x.check(MAX), -2);
        KIT.due("the least CLAIM", x.check(MIN), -2);
    }

    // ---- ACTS

    private static long linkOf(long before, int who, int what, int moment) {
        long x = before * -7046029254386353131L + who;
        x = (x ^ x >>> 29) * -4658895280553007687L + what;
        x = (x ^ x >>> 32) * -7723592293110705685L + moment;
        return x ^ x >>> 31;
    }

    private static void acts100() {
        KIT.says("An ACT: its number. FULL.");
        Desk x = new Desk();
        for (int i = 0; i < 100; i++) KIT.due("ACT " + i, x.act(i, -i), i);
        KIT.due("a 101st", x.act(0, 0), -3);
        KIT.due("count(8)", x.count(8), 100);
        KIT.due("the chain", x.chain(), -1);
        KIT.due("the last", x.alter(99, 0, 99), 99);
        KIT.due("behind it", x.alter(100, 0, 0) + " " + x.link(100), "-2 0");
        x.alter(99, 1, 0);
        KIT.due("the last alone is not as it was", x.chain(), 99);
    }

    private static void actsOfAnyNumbers() {
        KIT.says("ACTS: who, what (numbers), and NOW");
        int[] numbers = {0, 1, -1, MAX, MIN, 123456789};
        Desk x = new Desk();
        x.tick(1000000000);
        x.tick(1000000000);
        long before = 1;
        int i = 0;
        for (int who : numbers) {
            for (int what : numbers) {
                KIT.due("ACT of " + who + ", " + what, x.act(who, what), i);
                before = linkOf(before, who, what, 2000000000);
                KIT.due("its LINK", x.link(i), before);
                i++;
            }
        }
    }

    private static void linksOfActs() {
        KIT.says("LINK: x = (LINK before, 1 at first) * -7046029254386353131 + who; x = (x ^ x >>> 29) * -4658895280553007687 + what; x = (x ^ x >>> 32) * -7723592293110705685 + NOW; LINK is x ^ x >>> 31.");
        Desk x = new Desk();
        x.act(0, 0);
        KIT.due("of 0, 0 at 0", x.link(0), 5875048020703570442L);
        x.tick(1);
        x.act(1, 1);
        KIT.due("of 1, 1 at 1", x.link(1), -3070398285750849877L);
        x.tick(9);
        x.act(-7, 8);
        KIT.due("of -7, 8 at 10", x.link(2), linkOf(-3070398285750849877L, -7, 8, 10));
        KIT.says("The LINK of an ACT; 0: there is none such.");
        KIT.due("3", x.link(3), 0);
        KIT.due("-1", x.link(-1), 0);
        KIT.due("the greatest int", x.link(MAX), 0);
        KIT.due("the least int", x.link(MIN), 0);
        KIT.due("of no ACTS", new Desk().link(0), 0);
    }

    private static void altersOfActs() {
        KIT.says("Somebody alters an ACT (what = 0 who, 1 what, 2 its moment), not its LINK: what it was. BAD.");
        Desk x = new Desk();
        x.tick(5);
        x.act(3, 4);
        long link = x.link(0);
        KIT.due("ACT 1", x.alter(1, 0, 0), -2);
        KIT.due("ACT -1", x.alter(-1, 0, 0), -2);
        KIT.due("the greatest ACT", x.alter(MAX, 0, 0), -2);
        KIT.due("what = -1", x.alter(0, -1, 0), -2);
        KIT.due("what = 3", x.alter(0, 3, 0), -2);
        KIT.due("what = the greatest int", x.alter(0, MAX, 0), -2);
        KIT.due("nothing is done", x.chain(), -1);
        KIT.due("who", x.alter(0, 0, MIN), 3);
        KIT.due("what", x.alter(0, 1, MAX), 4);
        KIT.due("its moment", x.alter(0, 2, -1), 5);
        KIT.due("who again", x.alter(0, 0, 3), MIN);
        KIT.due("what again", x.alter(0, 1, 4), MAX);
        KIT.due("its moment again", x.alter(0, 2, 5), -1);
        KIT.due("not its LINK", x.link(0), link);
        KIT.due("NOW stays", x.count(9), 5);
        KIT.due("of no ACTS", new Desk().alter(0, 0, 0), -2);
    }

    private static void chains() {
        KIT.says("The first ACT whose LINK is not as it and the LINK before give it; NONE.");
        Desk x = new Desk();
        KIT.due("of no ACTS", x.chain(), -1);
        for (int i = 0; i < 4; i++) {
            x.tick(i);
            x.act(i, i);
        }
        KIT.due("of four", x.chain(), -1);
        for (int i = 3; i >= 0; i--) {
            x.alter(i, i % 3, 77);
            KIT.due("ACT " + i + " is altered", x.chain(), i);
        }
        x.alter(0, 0, 0);
        KIT.due("the first is as it was", x.chain(), 1);
        x.alter(1, 1, 1);
        KIT.due("the second, too: its LINK before is as it was", x.chain(), 2);
        KIT.due("one more behind them", x.act(9, 9), 4);
        KIT.due("is as it and the LINK before give it", x.chain(), 2);
        x.alter(2, 2, 3);
        x.alter(3, 0, 3);
        KIT.due("all are", x.chain(), -1);
    }

    private static void counts() {
        KIT.says("What = 0 COLLECTED, 1 PICTURES, 2 VOLUMES, 3 TREES, 4 OPENED ones, 5 HITS, 6 ROWS of the QUESTION, 7 CLAIMS, 8 ACTS, 9 NOW. BAD: another what.");
        Desk x = Desk.mounted(new Image(4).entry(0, "f", '0', 2, 0).text(64, "PK"));
        x.blank(1);
        for (int i = 0; i < 2; i++) x.volume(0, 0, 4);
        for (int i = 0; i < 3; i++) x.mount(0);
        for (int i = 0; i < 5; i++) x.open(0, 0);
        x.worded(0, "tape");
        x.asked(0, "kind=1");
        for (int i = 0; i < 7; i++) x.claim(0, 0, 1, 0);
        for (int i = 0; i < 8; i++) x.act(0, 0);
        x.tick(2000);
        x.collect(0, 8);
        x.collect(0, 4);
        int[] due = {12, 2, 3, 4, 5, 1, 1, 7, 8, 2000};
        for (int what = 0; what < 10; what++) KIT.due("what = " + what, x.count(what), due[what]);
        int[] wrong = {-1, 10, 11, MAX, MIN};
        for (int what : wrong) KIT.due("what = " + what, x.count(what), -2);
    }
}
