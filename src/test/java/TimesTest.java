/** Promises 43 to 54: the line of times, doubts, claims, acts and counts. */
public final class TimesTest {
    private static final Kit KIT = new Kit("Times");

    public static void main(String[] args) {
        lineOfNodes();
        lineOfAll();
        lineIsKept();
        doubtsOfNodes();
        doubtsOfCells();
        claims();
        wrongClaims();
        gradesOfClaims();
        claimsOfChangedBytes();
        fortyClaims();
        acts();
        alteredActs();
        counts();
        KIT.finish();
    }

    private static String line(DiskEvidence x) {
        int n = x.line();
        StringBuilder s = new StringBuilder();
        for (int i = 0; i < n; i++) {
            for (int what = 0; what < 5; what++) s.append(x.time(i, what)).append(what < 4 ? ',' : ' ');
        }
        return s.toString();
    }

    private static String doubts(DiskEvidence x) {
        int n = x.doubts();
        StringBuilder s = new StringBuilder();
        for (int i = 0; i < n; i++) s.append(x.doubt(i, 0)).append(',').append(x.doubt(i, 1)).append(',').append(x.doubt(i, 2)).append(' ');
        return s.toString();
    }

    private static void lineOfNodes() {
        DiskEvidence x = Kit.disk(30);
        x.format(0, 2, 4);
        x.tick(10);
        Kit.save(x, 0, "a", "1");
        Kit.save(x, 0, "b", "2");
        x.tick(10);
        Kit.save(x, 0, "a", "3");
        Kit.erase(x, 0, "b");
        x.mount(0);
        KIT.due("the line", line(x), "10,1,0,0,0 10,1,0,1,0 10,1,0,1,1 20,1,0,0,1 20,1,0,1,2 ");
        KIT.due("time(5, 0)", x.time(5, 0), -2);
        KIT.due("time(-1, 0)", x.time(-1, 0), -2);
        KIT.due("time(0, 5)", x.time(0, 5), -2);
        KIT.due("time(0, -1)", x.time(0, -1), -2);
    }

    private static void lineOfAll() {
        DiskEvidence x = new DiskEvidence();
        x.blank(40);
        x.volume(0, 0, 20);
        x.volume(0, 20, 20);
        x.format(0, 1, 49 * 8);
        x.format(1, 3, 0);
        x.tick(500);
        Kit.save(x, 0, "A", "a");
        Kit.save(x, 1, "c", Formats.chunks(Formats.chunk("tIME", Formats.high(0xFFFFFFFFL, 4)), Formats.chunk("tIME", Formats.high(500, 4)), Formats.chunk("IEND", "")));
        Kit.save(x, 1, "p", Formats.pack("in", "1") + Formats.pack());
        Kit.poke4(x, 0, 128 + 14, 5);
        x.mount(0);
        x.mount(1);
        x.open(1, 0);
        x.open(1, 1);
        x.inside(1, 3);
        x.open(1, 0);
        KIT.due("the line", line(x), "-890,2,0,0,0 100,1,1,2,1 500,2,0,0,1 500,1,1,0,1 500,1,1,0,3 500,1,1,0,3 500,1,1,1,1 4294967295,1,1,0,3 4294967295,1,1,0,3 ");
    }

    private static void lineIsKept() {
        DiskEvidence x = Kit.disk(20);
        x.format(0, 3, 0);
        x.tick(3);
        Kit.save(x, 0, "a", "");
        x.mount(0);
        KIT.due("before line()", x.time(0, 0), -2);
        KIT.due("line()", x.line(), 1);
        x.mount(0);
        KIT.due("of the latest line()", x.time(1, 0), -2);
        KIT.due("line() now", line(x), "3,1,0,0,1 3,1,1,0,1 ");
    }

    private static void doubtsOfNodes() {
        DiskEvidence x = Kit.disk(30);
        x.format(0, 2, 8);
        x.tick(1000);
        for (int i = 2; i < 8; i++) Kit.save(x, 0, "f" + i, "");
        int[][] moments = {{11, 10, 0}, {10, 10, 0}, {12, 10, 5}, {0, 10, 9}, {5, 1001, 0}, {5, 1000, 0}};
        for (int i = 0; i < 6; i++) {
            for (int k = 0; k < 3; k++) Kit.poke4(x, 0, 192 + 32 * (i + 1) + 4 + 4 * k, moments[i][k]);
        }
        x.mount(0);
        KIT.due("doubts", doubts(x), "0,0,1 0,2,1 0,2,2 0,3,2 0,4,3 ");
        KIT.due("doubt(5, 0)", x.doubt(5, 0), -2);
        KIT.due("doubt(-1, 0)", x.doubt(-1, 0), -2);
        KIT.due("doubt(0, 3)", x.doubt(0, 3), -2);
        x.tick(1);
        KIT.due("of the latest doubts()", x.doubt(4, 2), 3);
        KIT.due("as they are now", doubts(x), "0,0,1 0,2,1 0,2,2 0,3,2 ");
    }

    private static void doubtsOfCells() {
        DiskEvidence x = Kit.disk(20);
        x.format(0, 1, 48 * 8 + 6);
        x.tick(100);
        for (char c = 'A'; c < 'E'; c++) Kit.save(x, 0, "" + c, "");
        int[][] moments = {{21, 20}, {20, 20}, {20, 50}, {20, 51}};
        for (int i = 0; i < 4; i++) {
            Kit.poke4(x, 0, 128 + 32 * i + 14, moments[i][0]);
            Kit.poke4(x, 0, 128 + 32 * i + 18, moments[i][1]);
        }
        x.mount(0);
        x.mount(0);
        KIT.due("doubts", doubts(x), "0,0,1 0,3,3 1,0,1 1,3,3 ");
    }

    /** NODES: 0 a "abc", 1 b "abc", 2 c (150 bytes), 3 d (folder), 4 #6 (lost, "gone"). */
    private static DiskEvidence files() {
        DiskEvidence x = Kit.disk(30);
        x.format(0, 2, 4);
        x.tick(5);
        Kit.save(x, 0, "a", "abc");
        Kit.save(x, 0, "b", "abc");
        Kit.save(x, 0, "c", Kit.many('c', 150));
        Kit.folder(x, 0, "d");
        Kit.save(x, 0, "d/e", "gone");
        Kit.erase(x, 0, "d/e");
        x.mount(0);
        KIT.due("names", Kit.names(x, 0), "a b c d #6 ");
        return x;
    }

    private static String claimed(DiskEvidence x, int i) {
        StringBuilder s = new StringBuilder();
        for (int what = 0; what < 5; what++) s.append(x.claimed(i, what)).append(' ');
        return s.append(x.check(i)).toString();
    }

    private static void claims() {
        DiskEvidence x = files();
        int crc = (int) Kit.crc(Kit.raw("abc"));
        KIT.due("a crc", x.claim(0, 0, 1, crc), 0);
        KIT.due("a wrong crc", x.claim(0, 2, 1, crc), 1);
        KIT.due("a byte", x.claim(0, 2, 2, 149 * 256 + 'c'), 2);
        KIT.due("a byte behind the end", x.claim(0, 2, 2, 150 * 256), 3);
        KIT.due("another byte", x.claim(0, 0, 2, 'b'), 4);
        KIT.due("the same", x.claim(0, 1, 3, 0), 5);
        KIT.due("not the same", x.claim(0, 1, 3, 2), 6);
        KIT.due("of a lost one", x.claim(0, 4, 2, 'g'), 7);
        KIT.due("of both", x.claim(0, 0, 3, 4), 8);
        KIT.due("of a folder", x.claim(0, 3, 2, 0), 9);
        KIT.due("the highest byte", x.claim(0, 0, 2, Integer.MAX_VALUE), 10);
        String[] due = {"5 1 0 " + crc + " 0 1", "5 1 2 " + crc + " 0 0", "5 2 2 38243 0 1", "5 2 2 38400 0 0", "5 2 0 98 0 0", "5 3 1 0 0 1",
            "5 3 1 2 0 0", "4 2 4 103 0 1", "4 3 0 4 0 0", "5 2 3 0 0 1", "5 2 0 2147483647 0 0"};
        for (int i = 0; i < due.length; i++) KIT.due("claim " + i, claimed(x, i), due[i]);
        KIT.due("count(7)", x.count(7), 11);
        KIT.due("claimed(0, 5)", x.claimed(0, 5), -2);
        KIT.due("claimed(0, -1)", x.claimed(0, -1), -2);
        KIT.due("claimed(11, 0)", x.claimed(11, 0), -2);
        KIT.due("check(11)", x.check(11), -2);
        KIT.due("check(-1)", x.check(-1), -2);
    }

    private static void wrongClaims() {
        DiskEvidence x = files();
        Kit.save(x, 0, "p", Formats.pack("in", "1"));
        x.mount(0);
        int p = Kit.find(x, 1, "p");
        x.open(1, p);
        int in = x.inside(0, 3);
        KIT.due("of an inside one", x.claim(1, in, 1, 0), -2);
        KIT.due("with an inside one", x.claim(1, p, 3, in), -2);
        KIT.due("kind 0", x.claim(0, 0, 0, 0), -2);
        KIT.due("kind 4", x.claim(0, 0, 4, 0), -2);
        KIT.due("a below 0", x.claim(0, 0, 2, -1), -2);
        KIT.due("no such file", x.claim(0, 0, 3, 5), -2);
        KIT.due("no such file, either", x.claim(0, 0, 3, -1), -2);
        KIT.due("tree 2", x.claim(2, 0, 1, 0), -2);
        KIT.due("file 5", x.claim(0, 5, 1, 0), -2);
        KIT.due("a crc below 0", x.claim(0, 0, 1, -1), 0);
    }

    private static void gradesOfClaims() {
        DiskEvidence x = files();
        x.spoil(0, 8, true);
        KIT.due("a spoilt sector", x.claimed(x.claim(0, 0, 1, 0), 0), 4);
        KIT.due("none", x.claimed(x.claim(0, 1, 1, 0), 0), 5);
        KIT.due("of the other file", x.claimed(x.claim(0, 1, 3, 0), 0), 4);
        x.spoil(0, 8, false);
        KIT.due("as it was then", x.claimed(0, 0), 4);
        DiskEvidence y = Kit.disk(40);
        y.format(0, 2, 4);
        Kit.save(y, 0, "a", Kit.many('a', 64 * 8));
        y.mount(0);
        y.spoil(0, 15, true);
        KIT.due("the block of further ones does not count", y.claimed(y.claim(0, 0, 1, 0), 0), 5);
        y.spoil(0, 16, true);
        KIT.due("the eighth", y.claimed(y.claim(0, 0, 1, 0), 0), 4);
        DiskEvidence z = new DiskEvidence();
        for (int i = 0; i < 2; i++) {
            z.blank(20);
            z.volume(i, 0, 20);
        }
        z.join(4, 0, -1, 1);
        z.format(2, 3, 0);
        Kit.save(z, 2, "a", "");
        Kit.save(z, 2, "b", Kit.many('b', 64 * 5));
        z.mount(2);
        KIT.due("blocks of b", Kit.blocks(z, 0, 1) + z.where(2, 5) + " " + z.where(2, 6), "2 3 4 5 6 -1 -1");
        z.spoil(0, 3, true);
        KIT.due("a sector of what is reckoned", z.claimed(z.claim(0, 1, 1, 0), 0), 4);
        z.spoil(0, 3, false);
        z.spoil(1, 3, true);
        KIT.due("the other one", z.claimed(z.claim(0, 1, 1, 0), 0), 4);
        z.spoil(1, 3, false);
        z.spoil(0, 0, true);
        KIT.due("one that is not read", z.claimed(z.claim(0, 1, 1, 0), 0), 5);
    }

    private static void claimsOfChangedBytes() {
        DiskEvidence x = files();
        x.claim(0, 0, 3, 1);
        x.claim(0, 0, 2, 'a');
        KIT.due("true", x.check(0) + x.check(1), 2);
        x.poke(0, 8 * 64 + 2, 'x');
        KIT.due("by the bytes now", x.check(0) * 10 + x.check(1), 1);
        x.spoil(0, 8, true);
        KIT.due("spoilt", x.check(1), 0);
        x.spoil(0, 8, false);
        Kit.save(x, 0, "a", "another and longer");
        KIT.due("by the sizes then", x.claim(0, 0, 1, (int) Kit.crc(Kit.raw("ano"))), 2);
        KIT.due("true, too", x.check(2), 1);
    }

    private static void fortyClaims() {
        DiskEvidence x = files();
        for (int i = 0; i < 40; i++) KIT.due("claim " + i, x.claim(0, 0, 1, i), i);
        KIT.due("a 41st", x.claim(0, 0, 1, 0), -3);
        KIT.due("a bad 41st", x.claim(0, 9, 1, 0), -2);
    }

    private static long linkOf(long before, long who, long what, long moment) {
        long x = before * -7046029254386353131L + who;
        x ^= x >>> 29;
        x = x * -4658895280553007687L + what;
        x ^= x >>> 32;
        x = x * -7723592293110705685L + moment;
        return x ^ x >>> 31;
    }

    private static void acts() {
        DiskEvidence x = new DiskEvidence();
        KIT.due("link of none", x.link(0), 0);
        KIT.due("chain of none", x.chain(), -1);
        x.tick(7);
        KIT.due("act", x.act(-5, Integer.MIN_VALUE), 0);
        KIT.due("its link", x.link(0), linkOf(1, -5, Integer.MIN_VALUE, 7));
        KIT.due("act again", x.act(1, 2), 1);
        KIT.due("its link, too", x.link(1), linkOf(x.link(0), 1, 2, 7));
        KIT.due("link(2)", x.link(2), 0);
        KIT.due("link(-1)", x.link(-1), 0);
        for (int i = 2; i < 100; i++) KIT.due("act " + i, x.act(i, i), i);
        KIT.due("a 101st", x.act(0, 0), -3);
        KIT.due("count(8)", x.count(8), 100);
        KIT.due("the chain", x.chain(), -1);
    }

    private static void alteredActs() {
        DiskEvidence x = new DiskEvidence();
        for (int i = 0; i < 4; i++) {
            x.tick(1);
            x.act(10 + i, 20 + i);
        }
        KIT.due("alter(4, 0)", x.alter(4, 0, 0), -2);
        KIT.due("alter(-1, 0)", x.alter(-1, 0, 0), -2);
        KIT.due("alter(0, 3)", x.alter(0, 3, 0), -2);
        KIT.due("alter(0, -1)", x.alter(0, -1, 0), -2);
        KIT.due("who", x.alter(3, 0, 99), 13);
        KIT.due("the first that broke", x.chain(), 3);
        KIT.due("its moment", x.alter(1, 2, -7), 2);
        KIT.due("the first one now", x.chain(), 1);
        KIT.due("as it was", x.alter(1, 2, 2), -7);
        KIT.due("and that", x.alter(3, 0, 13), 99);
        KIT.due("whole again", x.chain(), -1);
        KIT.due("what", x.alter(0, 1, 0), 20);
        KIT.due("the first", x.chain(), 0);
        KIT.due("not its link", x.link(0), linkOf(1, 10, 20, 1));
    }

    private static void counts() {
        DiskEvidence x = files();
        x.collect(1, 3);
        x.act(1, 1);
        x.open(0, 0);
        int[] due = {3, 1, 1, 1, 0, 0, 0, 0, 1, 5};
        for (int what = 0; what < 10; what++) KIT.due("count(" + what + ")", x.count(what), due[what]);
    }
}
