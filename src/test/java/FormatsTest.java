/** Promises 34 to 37: formats opened as NODES, and files inside them. */
public final class FormatsTest {
    private static final Kit KIT = new Kit("Formats");

    public static void main(String[] args) {
        wrongNumbers();
        chunks();
        chunkFaults();
        packs();
        packFaults();
        rows();
        leftoverRows();
        pageFaults();
        manyNodes();
        firstBytes();
        inside();
        insideOfInside();
        thirtyInside();
        KIT.finish();
    }

    private static DiskEvidence with(String bytes) {
        DiskEvidence x = Kit.disk(80);
        x.format(0, 3, 0);
        Kit.save(x, 0, "f", bytes);
        x.mount(0);
        return x;
    }

    private static String opened(String bytes) {
        DiskEvidence x = with(bytes);
        int open = x.open(0, 0);
        return open < 0 ? "" + open : Kit.nodes(x, open) + "left " + x.opened(open, 1);
    }

    private static void wrongNumbers() {
        DiskEvidence x = with(Formats.pack());
        KIT.due("open(1, 0)", x.open(1, 0), -2);
        KIT.due("open(0, 1)", x.open(0, 1), -2);
        KIT.due("open(0, -1)", x.open(0, -1), -2);
        KIT.due("open", x.open(0, 0), 0);
        KIT.due("each time anew", x.open(0, 0), 1);
        KIT.due("count(4)", x.count(4), 2);
        KIT.due("node(2, 0, 0)", x.node(2, 0, 0), -2);
        KIT.due("node(0, 2, 0)", x.node(0, 2, 0), -2);
        KIT.due("node(0, -1, 0)", x.node(0, -1, 0), -2);
        KIT.due("node(0, 0, 5)", x.node(0, 0, 5), -2);
        KIT.due("node(0, 0, -1)", x.node(0, 0, -1), -2);
        KIT.due("opened(0, 4)", x.opened(0, 4), -2);
        KIT.due("opened(0, -1)", x.opened(0, -1), -2);
        KIT.due("opened(2, 0)", x.opened(2, 0), -2);
        KIT.due("tree and file", x.opened(1, 2) + x.opened(1, 3), 0);
        KIT.due("inside(0, 1)", x.inside(0, 1), -2);
        KIT.due("inside(0, 9)", x.inside(0, 9), -2);
        KIT.due("inside(2, 0)", x.inside(2, 0), -2);
        for (int i = 2; i < 8; i++) KIT.due("open " + i, x.open(0, 0), i);
        KIT.due("a ninth", x.open(0, 0), -3);
        Kit.save(x, 0, "g", "none");
        x.mount(0);
        KIT.due("FULL goes before FORM", x.open(1, 1), -3);
    }

    private static void chunks() {
        String a = Formats.chunk("abCD", "xyz");
        String t = Formats.chunk("tIME", Formats.high(0x80000001L, 4));
        String e = Formats.chunk("IEND", "");
        KIT.due("three pieces", opened(Formats.chunks(a, t, e) + "!!"),
            "1,0,43,0,-1 10,4,17,1633829700,0 11,10,13,1,1 10,17,31,1950960965,0 12,23,27,-2147483647,3 10,31,41,1229278788,0 11,37,37,1,5 left 6");
        String wrong = a.substring(0, 9) + "????";
        KIT.due("a wrong CRC", opened(Formats.chunks(wrong, e)), "1,0,27,0,-1 10,4,17,1633829700,0 11,10,13,0,1 10,17,27,1229278788,0 11,23,23,1,3 left 4");
        String five = Formats.chunk("tIME", "12345");
        KIT.due("a time of five bytes", opened(Formats.chunks(five, e)), "1,0,29,0,-1 10,4,19,1950960965,0 11,10,15,1,1 10,19,29,1229278788,0 11,25,25,1,3 left 4");
        KIT.due("other beginnings", opened("\u0089CH\r") + opened("\u0089CH") + opened("") + opened("P") + opened("PX") + opened("RT\0\0") + opened("RT\5\0") + opened("RT\1\1") + opened("RT\1"),
            "-5-5-5-5-5-5-5-5-5");
    }

    private static void chunkFaults() {
        String a = Formats.chunk("abCD", "xyz");
        String nodes = " 10,4,17,1633829700,0 11,10,13,1,1 left ";
        KIT.due("no piece", opened(Formats.chunks()), "1,0,4,5,-1 left 4");
        KIT.due("no end", opened(Formats.chunks(a)), "1,0,17,18,-1" + nodes + "4");
        KIT.due("half a piece", opened(Formats.chunks(a, a.substring(0, 12))), "1,0,29,18,-1" + nodes + "16");
        KIT.due("nine bytes", opened(Formats.chunks(a, Formats.chunk("IEND", "").substring(0, 9))), "1,0,26,18,-1" + nodes + "13");
        KIT.due("no letters", opened(Formats.chunks(a, Formats.chunk("ab1d", "xyz"))), "1,0,30,18,-1" + nodes + "17");
        KIT.due("nearly letters", opened(Formats.chunks(a, Formats.chunk("ab[d", ""))), "1,0,27,18,-1" + nodes + "14");
        KIT.due("nor these", opened(Formats.chunks(a, Formats.chunk("@bcd", ""))), "1,0,27,18,-1" + nodes + "14");
    }

    private static void packs() {
        KIT.due("an end alone", opened(Formats.pack() + "abc"), "2,0,10,0,-1 24,0,7,0,0 left 3");
        KIT.due("two entries", opened(Formats.pack("n", "123", "two", "")),
            "2,0,62,0,-1 20,0,19,100,0 21,5,6,1,1 22,16,19,1,1 20,19,37,200,0 21,24,27,3,4 22,37,37,1,4 23,37,45,0,0 23,45,55,19,0 24,55,62,2,0 left 0");
        String late = Formats.entry("n", "1", 0xFFFFFFFFL) + "PK\1\2\1n\0\0" + "PK\5\6\1\21\0";
        KIT.due("late seconds", opened(late), "2,0,32,0,-1 20,0,17,-1,0 21,5,6,1,1 22,16,17,1,1 23,17,25,0,0 24,25,32,1,0 left 0");
        StringBuilder wrong = new StringBuilder(Formats.pack("n", "123"));
        wrong.setCharAt(16, '9');
        KIT.due("a wrong CRC", opened(wrong.toString()).substring(37, 47), "22,16,19,0");
    }

    private static void packFaults() {
        String good = Formats.pack("n", "123", "two", "");
        KIT.due("nothing more", opened("PK"), "2,0,2,1,-1 left 2");
        KIT.due("a name of 0", opened("PK\3\4\0" + Kit.many('x', 40)), "2,0,45,1,-1 left 45");
        KIT.due("a name of 33", opened("PK\3\4\u0021" + Kit.many('\0', 80)), "2,0,85,1,-1 left 85");
        KIT.due("a name of 32", opened(Formats.pack(Kit.many('n', 32), "")).substring(0, 25), "2,0,93,0,-1 20,0,47,100,0");
        KIT.due("an entry that is cut", opened(good.substring(0, 30)), "2,0,30,20,-1 20,0,19,100,0 21,5,6,1,1 22,16,19,1,1 left 11");
        int[][] wrongs = {{37, 38}, {40, 38}, {41, 38}, {42, 38}, {43, 38}, {49, 46}, {50, 46}, {53, 46}, {54, 46}, {55, 56}, {58, 56}, {59, 56}, {60, 56}, {61, 56}};
        for (int[] w : wrongs) {
            StringBuilder s = new StringBuilder(good);
            s.setCharAt(w[0], (char) (s.charAt(w[0]) ^ 64));
            KIT.due("byte " + w[0] + " is wrong", opened(s.toString()).substring(0, 12), "2,0,62," + w[1] + ",-1");
        }
        KIT.due("an end that is cut", opened(good.substring(0, 61)).substring(0, 12), "2,0,61,56,-1");
        KIT.due("too few rows", opened(good.substring(0, 45) + good.substring(55)).substring(0, 12), "2,0,52,46,-1");
        KIT.due("nodes before it stay", opened(good.substring(0, 45)), "2,0,45,46,-1 20,0,19,100,0 21,5,6,1,1 22,16,19,1,1 20,19,37,200,0 21,24,27,3,4 22,37,37,1,4 23,37,45,0,0 left 0");
    }

    private static void rows() {
        String page = Formats.page("\0\1\u00ff", "\2\1\0\0\u0080\3\3abc");
        KIT.due("two rows", opened(Formats.rows(2, page) + "rest"),
            "3,0,68,0,-1 30,4,64,2,0 31,7,10,3,1 32,7,8,0,2 32,8,10,255,2 31,10,20,6,1 32,10,15,-2147483647,5 32,15,20,3,5 left 8");
        String turned = "\2\5\3" + "\1a" + "\0" + Kit.many('\0', 54);
        KIT.due("by their places in the list", opened(Formats.rows(1, turned)), "3,0,64,0,-1 30,4,64,2,0 31,9,10,5,1 32,9,10,0,2 31,7,9,3,1 32,7,9,97,4 left 4");
        KIT.due("no page", opened(Formats.rows(4) + Kit.many('x', 59)), "3,0,63,0,-1 left 63");
        KIT.due("two pages", opened(Formats.rows(1, Formats.page(), Formats.page("\0"))), "3,0,124,0,-1 30,4,64,0,0 30,64,124,1,0 31,66,67,2,2 32,66,67,0,3 left 4");
    }

    private static void leftoverRows() {
        String page = "\1\6" + "\1a\0\0" + "\1b\0\0" + "\0\0\3\2xy" + Kit.many('\7', 44);
        KIT.due("left over", opened(Formats.rows(2, page)), "3,0,64,0,-1 30,4,64,1,0 31,10,13,6,1 32,10,12,98,2 32,12,13,0,2 33,6,9,2,1 33,15,20,11,1 left 4");
        String tail = "\0" + Kit.many('\7', 57) + "\1z";
        KIT.due("at the page's end", opened(Formats.rows(1, tail)), "3,0,64,0,-1 30,4,64,0,0 33,62,64,58,1 left 4");
        String over = "\1\4" + "\1\1" + "\1c" + Kit.many('\7', 54);
        KIT.due("not in a row's bytes", opened(Formats.rows(1, over)), "3,0,64,0,-1 30,4,64,1,0 31,8,10,4,1 32,8,10,99,2 33,6,8,2,1 left 4");
        String close = "\0" + "\1\1\1" + Kit.many('\7', 56);
        KIT.due("two in a row", opened(Formats.rows(1, close)), "3,0,64,0,-1 30,4,64,0,0 33,5,7,1,1 33,7,9,3,1 left 4");
        String begun = "\1\5" + "\7\1\1\1d" + Kit.many('\7', 53);
        KIT.due("the next is looked for behind it", opened(Formats.rows(1, begun)), "3,0,64,0,-1 30,4,64,1,0 31,9,11,5,1 32,9,11,100,2 33,7,9,3,1 left 4");
    }

    private static void pageFaults() {
        String good = Formats.page("\0");
        String[] wrong = {"\25" + Kit.many('\0', 59), "\1\1" + Kit.many('\0', 58), "\1\74" + Kit.many('\0', 58), "\1\2\4" + Kit.many('\0', 57),
            "\1\2\3\72" + Kit.many('\0', 56), "\1\73" + Kit.many('\0', 57) + "\1", "\1\67" + Kit.many('\0', 53) + "\2\0\0\0\0"};
        int[] answers = {65, 65, 65, 65, 65, 65, 0};
        for (int i = 0; i < wrong.length; i++) {
            String page = wrong[i] + Kit.many('\0', 60 - wrong[i].length());
            String nodes = opened(Formats.rows(1, good, page, good));
            KIT.due("wrong page " + i, nodes.substring(0, nodes.indexOf(" 30")), "3,0,184," + answers[i] + ",-1");
        }
        KIT.due("nodes before it stay, none come of it", opened(Formats.rows(1, good, wrong[0], good)), "3,0,184,65,-1 30,4,64,1,0 31,6,7,2,1 32,6,7,0,2 left 124");
        String[] twenty = new String[20];
        for (int i = 0; i < 20; i++) twenty[i] = "\0";
        KIT.due("twenty rows", opened(Formats.rows(1, Formats.page(twenty))).substring(0, 27), "3,0,64,0,-1 30,4,64,20,0 31");
        KIT.due("a row beyond the page", opened(Formats.rows(2, "\1\73" + Kit.many('\0', 58))), "3,0,64,5,-1 left 64");
        KIT.due("a row to its end", opened(Formats.rows(2, "\1\72" + Kit.many('\0', 58))).substring(0, 38), "3,0,64,0,-1 30,4,64,1,0 31,62,64,58,1 ");
    }

    private static void manyNodes() {
        String[] pieces = new String[70];
        for (int i = 0; i < 70; i++) pieces[i] = Formats.chunk(i < 69 ? "abcd" : "IEND", "1");
        DiskEvidence x = with(Formats.chunks(pieces));
        x.open(0, 0);
        KIT.due("120 nodes", x.opened(0, 0), 120);
        KIT.due("no fault", x.node(0, 0, 3), 0);
        KIT.due("the last is a piece", x.node(0, 119, 0), 10);
        KIT.due("left over are those of nodes left out", x.opened(0, 1), 4 + 11 * 10);
        pieces[69] = "";
        DiskEvidence y = with(Formats.chunks(pieces));
        y.open(0, 0);
        KIT.due("a fault behind the last node", y.node(0, 0, 3), 4 + 69 * 11 + 1);
    }

    private static void firstBytes() {
        DiskEvidence x = new DiskEvidence();
        Kit.text(x, new Image(100).entry(0, "f", '0', 4097, 0).fill(64, 4097, 'x').text(64, "PK").packed());
        x.picture();
        x.volume(0, 0, 100);
        x.mount(0);
        KIT.due("a file of 4097 bytes", x.field(0, 0, 1), 4097);
        x.open(0, 0);
        KIT.due("its first 4096", x.node(0, 0, 2), 4096);
    }

    private static void inside() {
        DiskEvidence x = Kit.disk(40);
        x.format(0, 2, 2);
        x.tick(7);
        Kit.folder(x, 0, "d");
        Kit.save(x, 0, "d/p", Formats.pack("one", "first", "two", ""));
        Kit.save(x, 0, "q", Formats.pack("gone", "xyz"));
        Kit.erase(x, 0, "q");
        x.mount(0);
        x.open(0, 1);
        KIT.due("behind all", Kit.names(x, 0), "d p #4 @9 ");
        int first = x.inside(0, 3);
        KIT.due("inside", first, 4);
        KIT.due("the same again", x.inside(0, 3), first);
        x.open(0, 1);
        KIT.due("of another open", x.inside(1, 3), first);
        KIT.due("an empty one", x.inside(1, 6), first + 1);
        KIT.due("tree(0, 7)", x.tree(0, 7), 2);
        KIT.due("its fields", Kit.fields(x, 0, first), "1 5 -1 100 -1 5 1 0 2 0 5 ");
        KIT.due("its name", Kit.name(x, 0, first), "one");
        KIT.due("its content", Kit.content(x, 0, first), "first");
        KIT.due("behind it", x.content(0, first, 5), -1);
        KIT.due("no slack", x.slack(0, first, 0), -1);
        KIT.due("no block", x.block(0, first, 0), -1);
        KIT.due("living ones alone are found", Kit.find(x, 0, "d/p/one"), -1);
        x.open(0, 2);
        int lost = x.inside(2, 3);
        KIT.due("of a lost file", Kit.fields(x, 0, lost), "1 3 -1 100 -1 " + x.field(0, 2, 5) + " 2 0 1 0 3 ");
    }

    private static void insideOfInside() {
        String deep = Formats.pack("deep", "treasure");
        DiskEvidence x = with(Formats.pack("a", "1", "mid", Formats.pack("b", "2", "in", deep)));
        x.open(0, 0);
        int mid = x.inside(0, 6);
        int open = x.open(0, mid);
        int in = x.inside(open, 6);
        open = x.open(0, in);
        int last = x.inside(open, 3);
        KIT.due("names", Kit.names(x, 0), "f mid in deep ");
        KIT.due("the last content", Kit.content(x, 0, last), "treasure");
        KIT.due("parent and depth", x.field(0, last, 6) + " " + x.field(0, last, 8), in + " 3");
        KIT.due("opened(2, 3)", x.opened(open, 3), in);
        KIT.due("no format", x.open(0, last), -5);
    }

    private static void thirtyInside() {
        String[] entries = new String[66];
        for (int i = 0; i < 33; i++) {
            entries[2 * i] = "n" + i;
            entries[2 * i + 1] = "x" + i;
        }
        DiskEvidence x = with(Formats.pack(entries));
        x.open(0, 0);
        for (int i = 0; i < 30; i++) KIT.due("inside " + i, x.inside(0, 3 + 3 * i), 1 + i);
        KIT.due("a 31st", x.inside(0, 93), -3);
        KIT.due("one that is there", x.inside(0, 90), 30);
        KIT.due("tree(0, 7)", x.tree(0, 7), 30);
    }
}
