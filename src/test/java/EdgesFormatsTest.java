/** Boundary cases of "6 FORMATS" and of promises 34 to 37, each by the sentence that names it. */
public final class EdgesFormatsTest {
    private static final Kit KIT = new Kit("EdgesFormats");
    private static final int MAX = Integer.MAX_VALUE, MIN = Integer.MIN_VALUE;

    public static void main(String[] args) {
        beginnings();
        beginningsThatEndTooEarly();
        openInItsOrder();
        openAnyFile();
        first4096Bytes();
        nodes120();
        nodes120OfPages();
        chunksLetters();
        chunksLengths();
        chunksEnd();
        chunksFaults();
        chunksCrc();
        chunksTimes();
        packEntries();
        packNames();
        packSizes();
        packRows();
        packEnds();
        packFaults();
        rowsColumns();
        rowsPages();
        rowsPlaces();
        rowsFields();
        rowsEndInThePage();
        rowsByTheirPlaces();
        leftoverRows();
        leftoverRowsBesideRows();
        pagesAreFaults();
        leftOverBytes();
        nodeNumbers();
        openedNumbers();
        insideNumbers();
        insideTheSame();
        insideFields();
        insideOfInside();
        insideThirty();
        KIT.finish();
    }

    /** A TAPE of one file that is "f". */
    private static Desk with(String bytes) {
        Image m = new Image(2 + (bytes.length() + 63) / 64).entry(0, "f", '0', bytes.length(), 0).text(64, bytes);
        return Desk.mounted(m);
    }

    private static String opened(String bytes) {
        Desk x = with(bytes);
        int open = x.open(0, 0);
        return open < 0 ? "" + open : x.nodes(open) + "left " + x.opened(open, 1);
    }

    /** How many bytes are LEFT OVER. */
    private static String left(String bytes) {
        String s = opened(bytes);
        return s.substring(s.lastIndexOf(' ') + 1);
    }

    private static int value(String bytes) {
        Desk x = with(bytes);
        x.open(0, 0);
        return x.node(0, 0, 3);
    }

    private static String end() {
        return Formats.chunk("IEND", "");
    }

    // ---- OPEN

    private static void beginnings() {
        KIT.says("A FILE is OPENED: its number. BAD; FULL: 8; FORM: it begins as none of 6.");
        String[] good = {"\u0089CH\n", "PK", "RT\1\0", "RT\4\0", "\u0089CH\nxyz", "PKxyz", "RT\2\0xyz"};
        int[] kinds = {1, 2, 3, 3, 1, 2, 3};
        for (int i = 0; i < good.length; i++) {
            Desk x = with(good[i]);
            KIT.due("open " + good[i], x.open(0, 0), 0);
            KIT.due("KIND of " + good[i], x.node(0, 0, 0), kinds[i]);
            KIT.due("NODES of " + good[i], x.opened(0, 0), 1);
        }
        String[] wrong = {"", "\u0088CH\n", "\u0089cH\n", "\u0089Ch\n", "\u0089CH\r", "pK", "Pk", "P", "RT\0\0", "RT\5\0", "RT\1\1", "rT\1\0", "Rt\1\0", "RX\1\0", "XT\1\0", "KP", "\0PK", "RT\u0081\0"};
        for (String w : wrong) KIT.due("open " + w, with(w).open(0, 0), -5);
    }

    private static void beginningsThatEndTooEarly() {
        KIT.says("FORM: it begins as none of 6");
        String[] whole = {"\u0089CH\n", "PK\3\4", "RT\1\0"};
        String[] parts = {"\u0089CH", "P", "RT\1", "RT", "R", "\u0089"};
        for (String part : parts) {
            Image m = new Image(12);
            for (int i = 0; i < 3; i++) m.entry(2 * i, "" + i, '0', 4, 0).text(64 * (2 * i + 1), whole[i]);
            m.entry(6, "p", '0', part.length(), 0).text(7 * 64, part + (part.startsWith("P") ? "K" : part.startsWith("R") ? "RT\1\0".substring(part.length()) : "\u0089CH\n".substring(part.length())));
            Desk x = Desk.mounted(m);
            for (int i = 0; i < 3; i++) {
                x.open(0, i);
                KIT.due("what stands behind the end of " + part, x.open(0, 3), -5);
            }
        }
    }

    private static void openInItsOrder() {
        KIT.says("A FILE is OPENED: its number. BAD; FULL: 8; FORM: it begins as none of 6. (Each time anew.)");
        Image m = new Image(5).entry(0, "p", '0', 2, 0).text(64, "PK").entry(2, "n", '0', 2, 0);
        Desk x = Desk.mounted(m);
        KIT.due("FILE 2", x.open(0, 2), -2);
        KIT.due("FILE -1", x.open(0, -1), -2);
        KIT.due("the greatest FILE", x.open(0, MAX), -2);
        KIT.due("TREE 1", x.open(1, 0), -2);
        KIT.due("TREE -1", x.open(-1, 0), -2);
        KIT.due("FORM", x.open(0, 1), -5);
        for (int i = 0; i < 8; i++) KIT.due("each time anew " + i, x.open(0, 0), i);
        KIT.due("a ninth", x.open(0, 0), -3);
        KIT.due("FULL before FORM", x.open(0, 1), -3);
        KIT.due("BAD before FULL", x.open(0, 2), -2);
        KIT.due("count(4)", x.count(4), 8);
        KIT.due("opened(7, 0)", x.opened(7, 0), 1);
        KIT.due("opened(8, 0)", x.opened(8, 0), -2);
        KIT.due("node(8, 0, 0)", x.node(8, 0, 0), -2);
        KIT.due("inside(8, 0)", x.inside(8, 0), -2);
    }

    private static void openAnyFile() {
        KIT.says("OPEN (8 at most) makes NODES of a FILE'S bytes");
        String p = Formats.pack();
        Image m = Image.cells(20, 1, 1, 1, 0).root(0, "PK", 16, 2, 0).chain(2, 2).row(3 * 64, "PK", 0, 0, 0).root(1, "\u00e5", 0, 3, 7).text(4 * 64, p).text(9 * 64, p);
        Desk x = Desk.mounted(m);
        KIT.due("names", x.names(0), "PK PK ? @4 @9 ");
        KIT.due("a folder", x.open(0, 0), 0);
        KIT.due("its bytes", x.node(0, 0, 2), 64);
        KIT.due("a FILE without bytes", x.open(0, 1), -5);
        KIT.due("a LOST one", x.open(0, 2), 1);
        KIT.due("CUT OUT", x.open(0, 4), 2);
        KIT.due("its NODES", x.nodes(2), "2,0,7,0,-1 24,0,7,0,0 ");
        Image n = Image.nodes(20, 2).named(4, 0, 2, "a").node(2, 1, 192, 6, 5, 7).takes(6, 7).text(6 * 64, "PK").fill(7 * 64, 64, 'q');
        n.b2(Image.nodeAt(2) + 18, 0);
        Desk y = Desk.mounted(n);
        KIT.due("a place without a BLOCK is 0s", y.open(0, 0), 0);
        KIT.due("all of it", y.nodes(0), "2,0,192,1,-1 ");
    }

    private static void first4096Bytes() {
        KIT.says("its first 4096; 120 NODES at most, others are left out");
        for (int more = -1; more <= 1; more++) {
            int bytes = 4096 + more - 24;
            Image m = new Image(80).entry(0, "f", '0', 4096 + more, 0).fill(64, 70 * 64, 'x').text(64, "\u0089CH\n" + Formats.high(bytes, 2) + "abCD");
            m.text(64 + 10 + bytes, "????" + end());
            Desk x = Desk.mounted(m);
            x.open(0, 0);
            KIT.due("to, of " + (4096 + more), x.node(0, 0, 2), Math.min(4096, 4096 + more));
            KIT.due("VALUE, of " + (4096 + more), x.node(0, 0, 3), more == 1 ? 4096 - 9 + 1 : 0);
            KIT.due("NODES, of " + (4096 + more), x.opened(0, 0), more == 1 ? 3 : 5);
        }
    }

    private static void nodes120() {
        KIT.says("120 NODES at most, others are left out");
        for (int n = 59; n <= 61; n++) {
            StringBuilder s = new StringBuilder("\u0089CH\n");
            for (int i = 1; i < n; i++) s.append(Formats.chunk("abCD", ""));
            s.append(end());
            Desk x = with(s.toString());
            x.open(0, 0);
            int has = Math.min(120, 1 + 2 * n);
            KIT.due("of " + (1 + 2 * n), x.opened(0, 0), has);
            KIT.due("the last of " + (1 + 2 * n), x.node(0, has - 1, 0), n == 59 ? 11 : 10);
            KIT.due("behind it of " + (1 + 2 * n), x.node(0, has, 0), -2);
            KIT.due("no FAULT of " + (1 + 2 * n), x.node(0, 0, 3), 0);
            KIT.says("LEFT OVER are bytes that no NODE but the whole has.");
            KIT.due("left over of " + (1 + 2 * n), x.opened(0, 1), n == 61 ? 14 : 4);
        }
        KIT.says("is a FAULT: VALUE of the whole is its first place and 1");
        StringBuilder s = new StringBuilder("\u0089CH\n");
        for (int i = 0; i < 65; i++) s.append(Formats.chunk("abCD", ""));
        KIT.due("a FAULT behind the last NODE", value(s.toString()), 4 + 650 + 1);
        StringBuilder p = new StringBuilder();
        for (int i = 0; i < 41; i++) p.append(Formats.entry("n", "", i));
        Desk y = with(p.toString());
        y.open(0, 0);
        KIT.due("of 124: the bytes of an entry are the last but one", y.opened(0, 0) + " " + y.node(0, 118, 0) + " " + y.node(0, 119, 0), "120 20 21");
        KIT.due("bytes of an entry that is left out", y.inside(0, 120), -2);
    }

    private static void nodes120OfPages() {
        KIT.says("120 NODES at most, others are left out");
        String[] ten = new String[10];
        for (int i = 0; i < 10; i++) ten[i] = "\0\0\0\0";
        String page = Formats.page(ten);
        Desk x = with(Formats.rows(4, page, page, page));
        x.open(0, 0);
        KIT.due("of 154", x.opened(0, 0) + " " + x.node(0, 103, 0) + " " + x.node(0, 119, 0), "120 30 31");
        KIT.due("left over: the beginning", x.opened(0, 1), 4);
    }

    // ---- CHUNKS

    private static void chunksLetters() {
        KIT.says("four letters (A .. Z, a .. z)");
        char[] signs = {'@', 'A', 'Z', '[', '`', 'a', 'z', '{', '0', ' ', '\0', '\u00c1', '\u00e1'};
        for (char c : signs) {
            boolean good = c >= 'A' && c <= 'Z' || c >= 'a' && c <= 'z';
            for (int at = 0; at < 4; at++) {
                StringBuilder letters = new StringBuilder("xxxx");
                letters.setCharAt(at, c);
                KIT.due("letter " + at + " is " + (int) c, value(Formats.chunks(Formats.chunk(letters.toString(), ""), end())), good ? 0 : 5);
            }
        }
        KIT.says("VALUE: its four letters as a number, the first the highest byte");
        Desk x = with(Formats.chunks(Formats.chunk("zABC", ""), end()));
        x.open(0, 0);
        KIT.due("the number", x.node(0, 1, 3), 0x7A414243);
    }

    private static void chunksLengths() {
        KIT.says("length (two bytes, the highest first)");
        int[] lengths = {0, 1, 255, 256, 257, 513};
        for (int n : lengths) {
            String s = Formats.chunks(Formats.chunk("abCD", Kit.many('x', n)), end());
            KIT.due("of " + n, opened(s), "1,0," + s.length() + ",0,-1 10,4," + (14 + n) + ",1633829700,0 11,10," + (10 + n) + ",1,1 10," + (14 + n) + "," + (24 + n) + ",1229278788,0 11," + (20 + n) + "," + (20 + n) + ",1,3 left 4");
            KIT.due("a byte of " + n + " is missing", value(s.substring(0, s.length() - 1)), 15 + n);
            KIT.due("one too many for " + n, value("\u0089CH\n" + Formats.high(n + 1, 2) + "abCD" + Kit.many('x', n) + "????"), 5);
        }
        KIT.due("the greatest", value("\u0089CH\n\u00ff\u00ffabCD" + Kit.many('x', 100)), 5);
    }

    private static void chunksEnd() {
        KIT.says("until one with the letters \"IEND\"");
        KIT.due("nothing is looked at behind it", opened(Formats.chunks(end(), end())), "1,0,24,0,-1 10,4,14,1229278788,0 11,10,10,1,1 left 14");
        KIT.due("one with bytes", opened(Formats.chunks(Formats.chunk("IEND", "abc"))), "1,0,17,0,-1 10,4,17,1229278788,0 11,10,13,1,1 left 4");
        KIT.due("other letters", value(Formats.chunks(Formats.chunk("IENd", ""))), 15);
        KIT.due("a byte behind it", value(Formats.chunks(end()) + "\0"), 0);
    }

    private static void chunksFaults() {
        KIT.says("A piece, entry, row of PACK, its end, or page that is not as told (also: that does not lie in the bytes) is a FAULT: VALUE of the whole is its first place and 1 (0 without FAULT; NODES before it stay, none come of it).");
        String a = Formats.chunk("abCD", "xyz");
        KIT.due("no piece", opened("\u0089CH\n"), "1,0,4,5,-1 left 4");
        KIT.due("no further piece", opened(Formats.chunks(a)), "1,0,17,18,-1 10,4,17,1633829700,0 11,10,13,1,1 left 4");
        for (int n = 1; n < 10; n++) KIT.due(n + " bytes of one", value(Formats.chunks(a) + end().substring(0, n)), 18);
        KIT.due("ten bytes of one", value(Formats.chunks(a) + end()), 0);
        KIT.due("NODES before it stay, none come of it", opened(Formats.chunks(a, Formats.chunk("ab?D", ""), end())), "1,0,37,18,-1 10,4,17,1633829700,0 11,10,13,1,1 left 24");
    }

    private static void chunksCrc() {
        KIT.says("the CRC of letters and bytes (four, the highest first)");
        String c = Formats.chunk("abCD", "xyz");
        for (int i = 0; i < c.length(); i++) {
            if (i < 2) continue;
            StringBuilder s = new StringBuilder(c);
            s.setCharAt(i, (char) (c.charAt(i) ^ (i < 6 ? 32 : 1)));
            Desk x = with(Formats.chunks(s.toString(), end()));
            x.open(0, 0);
            KIT.says("A CRC that is wrong is none.");
            KIT.due("byte " + i + " is another", x.node(0, 2, 3) + " " + x.node(0, 0, 3), "0 0");
        }
        KIT.due("the length is none of it", opened(Formats.chunks(end())), "1,0,14,0,-1 10,4,14,1229278788,0 11,10,10,1,1 left 4");
    }

    private static void chunksTimes() {
        KIT.says("or, of \"tIME\" with 4 bytes, 12 (VALUE: the seconds, the highest byte first, as an int that may be below 0; in THE LINE they are without sign)");
        String[] bytes = {"", "\1\2\3", "\1\2\3\4", "\1\2\3\4\5", "\0\0\0\0", "\u0080\0\0\0", "\u00ff\u00ff\u00ff\u00ff"};
        String[] due = {"11,10,10,1,1", "11,10,13,1,1", "12,10,14,16909060,1", "11,10,15,1,1", "12,10,14,0,1", "12,10,14,-2147483648,1", "12,10,14,-1,1"};
        for (int i = 0; i < bytes.length; i++) {
            String s = opened(Formats.chunks(Formats.chunk("tIME", bytes[i]), end()));
            KIT.due("of " + bytes[i].length() + " bytes", s.split(" ")[2], due[i]);
        }
        KIT.due("other letters", opened(Formats.chunks(Formats.chunk("TIME", "\1\2\3\4"), end())).split(" ")[2], "11,10,14,1,1");
        KIT.due("a wrong CRC", opened("\u0089CH\n\0\4tIME\1\2\3\4????" + end()).split(" ")[2], "12,10,14,16909060,1");
        Desk x = with(Formats.chunks(Formats.chunk("tIME", "\u0080\0\0\0"), Formats.chunk("tIME", "\0\0\0\0"), Formats.chunk("tIME", "\u00ff\u00ff\u00ff\u00ff"), end()));
        x.open(0, 0);
        KIT.due("in THE LINE, 0 too", x.lines(), "0,1,0,0,3 2147483648,1,0,0,3 4294967295,1,0,0,3 ");
    }

    // ---- PACK

    private static void packEntries() {
        KIT.says("KIND 20 an entry (VALUE: its seconds), in it 21 its name (VALUE: its length), 22 its bytes (VALUE: whether the CRC is right); 23 a row (VALUE: the place), 24 the end (VALUE: how many).");
        String e = Formats.entry("ab", "xyz", 0x01020304L);
        String s = e + "PK\1\2\2ab\0\0" + "PK\5\6\1" + Formats.low(e.length(), 2);
        KIT.due("one", opened(s), "2,0,36,0,-1 20,0,20,16909060,0 21,5,7,2,1 22,17,20,1,1 23,20,29,0,0 24,29,36,1,0 left 0");
        for (int i = 9; i < 20; i++) {
            StringBuilder w = new StringBuilder(s);
            w.setCharAt(i, (char) (s.charAt(i) ^ 1));
            Desk x = with(w.toString());
            x.open(0, 0);
            KIT.due("byte " + i + " is another: the CRC", x.node(0, 3, 3), i >= 13 && i < 17 ? 1 : 0);
            KIT.due("byte " + i + " is another: no FAULT", x.node(0, 0, 3), 0);
        }
        KIT.due("the second one's", opened(Formats.pack("a", "b", "cde", "")).split(" ")[5], "21,22,25,3,4");
        KIT.due("the CRC of no bytes", opened(Formats.pack("a", "")).split(" ")[3], "22,16,16,1,1");
    }

    private static void packNames() {
        KIT.says("name's length (1 .. 32)");
        int[] lengths = {0, 1, 2, 31, 32, 33, 255};
        for (int n : lengths) {
            String name = Kit.many('n', n);
            String e = Formats.entry(name, "b", 5);
            String s = e + "PK\1\2" + Formats.low(n, 1) + name + "\0\0" + "PK\5\6\1" + Formats.low(e.length(), 2);
            KIT.due("of " + n, value(s), n >= 1 && n <= 32 ? 0 : 1);
        }
        KIT.due("of any bytes", opened(Formats.pack("\0/", "b")).split(" ")[2], "21,5,7,2,1");
    }

    private static void packSizes() {
        KIT.says("size (two bytes), CRC, seconds (four each), the bytes");
        int[] sizes = {0, 1, 255, 256, 1000};
        for (int n : sizes) {
            String s = Formats.pack("a", Kit.many('b', n));
            KIT.due("of " + n, opened(s), "2,0," + (31 + n) + ",0,-1 20,0," + (16 + n) + ",100,0 21,5,6,1,1 22,16," + (16 + n) + ",1,1 23," + (16 + n) + "," + (24 + n) + ",0,0 24," + (24 + n) + "," + (31 + n) + ",1,0 left 0");
        }
        String e = Formats.entry("a", "bc", 5);
        KIT.says("(also: that does not lie in the bytes)");
        KIT.due("an entry to the end of the bytes", opened(e), "2,0,18,19,-1 20,0,18,5,0 21,5,6,1,1 22,16,18,1,1 left 0");
        KIT.due("a byte is missing", opened(e.substring(0, 17)), "2,0,17,1,-1 left 17");
        String none = Formats.entry("a", "", 5);
        KIT.due("one without bytes to the end", opened(none), "2,0,16,17,-1 20,0,16,5,0 21,5,6,1,1 22,16,16,1,1 left 0");
        for (int n = 4; n < 16; n++) KIT.due("the first " + n + " bytes", value(none.substring(0, n)), 1);
    }

    private static void packRows() {
        KIT.says("then as many rows: 'P', 'K', 1, 2, name's length, the name, the entry's place (two bytes), of the entries in their order");
        String a = Formats.entry("a", "1", 5);
        String b = Formats.entry("bb", "", 6);
        String rowA = "PK\1\2\1a\0\0";
        String rowB = "PK\1\2\2bb\21\0";
        String end = "PK\5\6\2" + Formats.low(a.length() + b.length(), 2);
        int at = a.length() + b.length();
        KIT.due("two", value(a + b + rowA + rowB + end), 0);
        KIT.due("in another order", value(a + b + rowB + rowA + end), at + 1);
        KIT.due("one", value(a + b + rowA + end), at + 8 + 1);
        KIT.due("three", value(a + b + rowA + rowB + rowB + end), at + 17 + 1);
        KIT.due("none", value(a + b + end), at + 1);
        KIT.due("twice the first", value(a + b + rowA + rowA + end), at + 8 + 1);
        KIT.due("another name", value(a + b + "PK\1\2\1b\0\0" + rowB + end), at + 1);
        KIT.due("another length", value(a + b + "PK\1\2\2a\0\0\0" + rowB + end), at + 1);
        KIT.due("another place, its lower byte", value(a + b + "PK\1\2\1a\1\0" + rowB + end), at + 1);
        KIT.due("another place, its higher byte", value(a + b + "PK\1\2\1a\0\1" + rowB + end), at + 1);
        KIT.due("a row that is cut", value(a + b + rowA + rowB.substring(0, 8)), at + 8 + 1);
        KIT.due("a row to the end of the bytes", value(a + b + rowA + rowB), at + 17 + 1);
        KIT.due("an entry behind a row", value(a + rowA + b + end), a.length() + 8 + 1);
        String far = Formats.pack("a", Kit.many('b', 300), "c", "d");
        KIT.due("a place of two bytes", opened(far).split(" ")[8], "23,341,349,316,0");
    }

    private static void packEnds() {
        KIT.says("then 'P', 'K', 5, 6, how many (a byte), the first row's place, or its own without rows (two bytes)");
        KIT.due("without rows", opened("PK\5\6\0\0\0"), "2,0,7,0,-1 24,0,7,0,0 left 0");
        KIT.due("its own place is 0", value("PK\5\6\0\7\0"), 1);
        KIT.due("how many is 0", value("PK\5\6\1\0\0"), 1);
        String e = Formats.entry("a", "1", 5) + "PK\1\2\1a\0\0";
        KIT.due("the first row's place", value(e + "PK\5\6\1\21\0"), 0);
        KIT.due("its own place", value(e + "PK\5\6\1\31\0"), 26);
        KIT.due("its higher byte", value(e + "PK\5\6\1\21\1"), 26);
        KIT.due("how many is 1", value(e + "PK\5\6\2\21\0"), 26);
        KIT.due("how many is 1, not 0", value(e + "PK\5\6\0\21\0"), 26);
        KIT.due("it is cut", value(e + "PK\5\6\1\21"), 26);
        KIT.due("it is no end", value(e + "PK\5\7\1\21\0"), 26);
        KIT.due("what is behind it is left over", left(e + "PK\5\6\1\21\0" + "PK\3\4"), "4");
    }

    private static void packFaults() {
        KIT.says("It begins with 'P', 'K'.");
        KIT.due("and nothing", opened("PK"), "2,0,2,1,-1 left 2");
        KIT.due("other signs", opened("PK\7\10"), "2,0,4,1,-1 left 4");
        KIT.due("a row", opened("PK\1\2\1a\0\0"), "2,0,8,1,-1 left 8");
        KIT.due("three bytes", opened("PK\3"), "2,0,3,1,-1 left 3");
        KIT.says("NODES before it stay, none come of it");
        String a = Formats.entry("a", "1", 5);
        KIT.due("a second entry", opened(a + "PK\3\4\0"), "2,0,22,18,-1 20,0,17,5,0 21,5,6,1,1 22,16,17,1,1 left 5");
    }

    // ---- ROWS

    private static String page(String begin) {
        return begin + Kit.many('\7', 60 - begin.length());
    }

    private static void rowsColumns() {
        KIT.says("ROWS: 'R', 'T', columns (1 .. 4), 0");
        for (int columns = 1; columns <= 4; columns++) {
            String s = opened(Formats.rows(columns, page("\1\2" + Kit.many('\0', columns))));
            StringBuilder due = new StringBuilder("3,0,64,0,-1 30,4,64,1,0 31,6," + (6 + columns) + ",2,1 ");
            for (int c = 0; c < columns; c++) due.append("32,").append(6 + c).append(',').append(7 + c).append(",0,2 ");
            KIT.due("columns " + columns, s, due + "left 4");
        }
    }

    private static void rowsPages() {
        KIT.says("and then pages of 60 bytes (less than that at the end belongs to none)");
        String none = page("\0");
        KIT.due("no page", opened("RT\1\0"), "3,0,4,0,-1 left 4");
        KIT.due("59 bytes", opened("RT\1\0" + none.substring(1)), "3,0,63,0,-1 left 63");
        KIT.due("60 bytes", opened("RT\1\0" + none), "3,0,64,0,-1 30,4,64,0,0 left 4");
        KIT.due("61 bytes", opened("RT\1\0" + none + "x"), "3,0,65,0,-1 30,4,64,0,0 left 5");
        KIT.due("119 bytes", opened("RT\1\0" + none + none.substring(1)), "3,0,123,0,-1 30,4,64,0,0 left 63");
        KIT.due("120 bytes", opened("RT\1\0" + none + none), "3,0,124,0,-1 30,4,64,0,0 30,64,124,0,0 left 4");
        KIT.says("byte 0 is how many rows k (0 .. 20)");
        StringBuilder twenty = new StringBuilder("\24");
        StringBuilder more = new StringBuilder("\25");
        for (int i = 0; i < 20; i++) twenty.append((char) (21 + i));
        for (int i = 0; i < 21; i++) more.append((char) (22 + i));
        KIT.due("20", value("RT\1\0" + twenty + Kit.many('\0', 39)), 0);
        KIT.due("21", value("RT\1\0" + more + Kit.many('\0', 38)), 5);
        KIT.due("255", value("RT\1\0" + "\u00ff" + Kit.many('\0', 59)), 5);
    }

    private static void rowsPlaces() {
        KIT.says("then k places in the page (above k, below 60)");
        int[][] places = {{0, 5}, {1, 5}, {2, 0}, {3, 0}, {59, 0}, {60, 5}, {61, 5}, {255, 5}};
        for (int[] p : places) KIT.due("place " + p[0] + " of one", value("RT\1\0" + "\1" + (char) p[0] + Kit.many('\0', 58)), p[1]);
        int[][] second = {{2, 5}, {3, 0}, {59, 0}, {60, 5}};
        for (int[] p : second) KIT.due("place " + p[0] + " of two", value("RT\1\0" + "\2\3" + (char) p[0] + Kit.many('\0', 57)), p[1]);
        KIT.due("twice the same", opened("RT\1\0" + page("\2\3\3\0")), "3,0,64,0,-1 30,4,64,2,0 31,7,8,3,1 32,7,8,0,2 31,7,8,3,1 32,7,8,0,4 left 4");
    }

    private static void rowsFields() {
        KIT.says("for each column 0 (nothing), or 1 and a byte, or 2 and four bytes, or 3, a length and so many bytes");
        String[] fields = {"\0", "\1\0", "\1\u00ff", "\2\1\2\3\4", "\2\0\0\0\u0080", "\2\u00ff\u00ff\u00ff\u00ff", "\3\0", "\3\1\0", "\3\5abcde"};
        int[] values = {0, 0, 255, 0x04030201, MIN, -1, 0, 1, 5};
        for (int i = 0; i < fields.length; i++) {
            int to = 6 + fields[i].length();
            KIT.due("field " + i, opened("RT\1\0" + page("\1\2" + fields[i])), "3,0,64,0,-1 30,4,64,1,0 31,6," + to + ",2,1 32,6," + to + "," + values[i] + ",2 left 4");
        }
        int[] wrong = {4, 5, 128, 255};
        for (int w : wrong) KIT.due("a field of " + w, value("RT\1\0" + page("\1\2" + (char) w)), 5);
        KIT.due("a second one of 4", value("RT\2\0" + page("\1\2\0\4")), 5);
        KIT.due("each in its column", opened("RT\4\0" + page("\1\2\3\1z\2\1\0\0\0\1\2\0")), "3,0,64,0,-1 30,4,64,1,0 31,6,17,2,1 32,6,9,1,2 32,9,14,1,2 32,14,16,2,2 32,16,17,0,2 left 4");
    }

    private static void rowsEndInThePage() {
        KIT.says("it ends in the page");
        String[] ends = {"\0", "\1\0", "\2\0\0\0\0", "\3\0", "\3\3\0\0\0"};
        for (String e : ends) {
            int at = 60 - e.length();
            String good = "\1" + (char) at + Kit.many('\7', at - 2) + e;
            KIT.due("to its end, " + (int) e.charAt(0) + ", " + e.length(), value("RT\1\0" + good + page("\0")), 0);
            if (at + 1 > 59) continue;
            String over = "\1" + (char) (at + 1) + Kit.many('\7', at - 1) + e.substring(0, e.length() - 1);
            KIT.due("one byte beyond, " + (int) e.charAt(0) + ", " + e.length(), value("RT\1\0" + over + page("\0")), 5);
        }
        KIT.due("a second column beyond", value("RT\2\0" + "\1\73" + Kit.many('\7', 57) + "\0" + page("\0")), 5);
        KIT.due("a length beyond", value("RT\1\0" + "\1\73" + Kit.many('\7', 57) + "\3" + page("\0")), 5);
        KIT.due("a text of 255", value("RT\1\0" + page("\1\2\3\u00ff") + page("\0") + page("\0") + page("\0") + page("\0") + page("\0")), 5);
    }

    private static void rowsByTheirPlaces() {
        KIT.says("in it by their places in the list 31 rows (VALUE: its place), in each 32 fields");
        KIT.due("not by where they stand", opened("RT\1\0" + page("\2\6\4\7\1a\1b").replace("\4\7\1a\1b", "\4\1a\1b")), "3,0,63,0,-1 left 63");
        KIT.due("the second first", opened("RT\1\0" + page("\2\5\3\1a\1b")), "3,0,64,0,-1 30,4,64,2,0 31,9,11,5,1 32,9,11,98,2 31,7,9,3,1 32,7,9,97,4 left 4");
        KIT.due("one in the other", opened("RT\1\0" + page("\2\3\5\3\3\1\1\1")), "3,0,64,0,-1 30,4,64,2,0 31,7,12,3,1 32,7,12,3,2 31,9,11,5,1 32,9,11,1,4 left 4");
    }

    private static String leftover(int columns, String page) {
        String s = opened("RT" + (char) columns + "\0" + page(page));
        int at = s.indexOf("33,");
        return at < 0 ? "" : s.substring(at, s.indexOf("left"));
    }

    private static void leftoverRows() {
        KIT.says("and then 33 LEFTOVER rows (VALUE: its place): from behind the list on, rising, where a whole row stands in bytes of the page that none of its rows has, not all of it nothing (the next is looked for behind it)");
        KIT.due("none", leftover(1, "\0"), "");
        KIT.due("at once", leftover(1, "\0\1a"), "33,5,7,1,1 ");
        KIT.due("two", leftover(1, "\0\1a\1b"), "33,5,7,1,1 33,7,9,3,1 ");
        KIT.due("the next behind it", leftover(1, "\0\1\1\1b"), "33,5,7,1,1 33,7,9,3,1 ");
        KIT.due("all of it nothing", leftover(2, "\0\0\0\0\0"), "");
        KIT.due("nothing and a byte", leftover(2, "\0\7\0\1a"), "33,6,9,2,1 ");
        KIT.due("a byte and nothing", leftover(2, "\0\7\1a\0\0"), "33,6,9,2,1 ");
        KIT.due("nothing, nothing and a byte", leftover(2, "\0\7\0\0\1a"), "33,7,10,3,1 ");
        KIT.due("a text without bytes", leftover(1, "\0\7\3\0"), "33,6,8,2,1 ");
        KIT.due("a number", leftover(1, "\0\7\2\0\0\0\0\0"), "33,6,11,2,1 ");
        KIT.due("of four columns", leftover(4, "\0\0\0\0\0\1a"), "33,6,11,2,1 ");
        KIT.due("not whole", leftover(2, "\0\7\1a\7"), "");
        String last = "\0" + Kit.many('\7', 57);
        KIT.due("to the page's end", leftover(1, last + "\1a"), "33,62,64,58,1 ");
        KIT.due("not behind it", leftover(1, last + "\7\1"), "");
        KIT.due("nor a text", leftover(1, last + "\3\1"), "");
        KIT.due("a text to the page's end", leftover(1, last + "\3\0"), "33,62,64,58,1 ");
        KIT.due("a second page has its own", opened("RT\1\0" + page("\0") + page("\0\1a")), "3,0,124,0,-1 30,4,64,0,0 30,64,124,0,0 33,65,67,1,2 left 4");
    }

    private static void leftoverRowsBesideRows() {
        KIT.says("from behind the list on, rising, where a whole row stands in bytes of the page that none of its rows has");
        KIT.due("not in the list", leftover(1, "\1\3\0\1a"), "");
        KIT.due("nor in byte 0", leftover(2, "\0\1a\7"), "");
        KIT.due("behind the list", leftover(1, "\1\4\1a\0"), "33,6,8,2,1 ");
        KIT.due("between the list and a row", leftover(1, "\1\4\1\7\1b"), "33,6,8,2,1 ");
        KIT.due("into a row's first byte", leftover(1, "\1\4\7\1\1b"), "");
        KIT.due("in a row's last byte", leftover(1, "\1\2\1\1\7"), "");
        KIT.due("in a row", leftover(1, "\1\2\3\3\1\1\1"), "");
        KIT.due("right behind a row", leftover(1, "\1\2\1a\1b"), "33,8,10,4,1 ");
        KIT.due("over a row", leftover(1, "\1\4\3\3\1c\0"), "");
        KIT.due("between two rows", leftover(1, "\2\3\7\1a\1b\1c"), "33,9,11,5,1 ");
        KIT.due("a row's last byte is byte 59", leftover(1, "\1\72\1a" + Kit.many('\7', 54) + "\1b"), "33,6,8,2,1 ");
        KIT.due("behind rows and their fields", opened("RT\1\0" + page("\1\4\1a\1b")), "3,0,64,0,-1 30,4,64,1,0 31,8,10,4,1 32,8,10,98,2 33,6,8,2,1 left 4");
    }

    private static void pagesAreFaults() {
        KIT.says("NODES before it stay, none come of it");
        String good = page("\1\2\0");
        String bad = page("\1\1\0");
        KIT.due("the first page", opened("RT\1\0" + bad), "3,0,64,5,-1 left 64");
        KIT.due("the second", opened("RT\1\0" + good + bad), "3,0,124,65,-1 30,4,64,1,0 31,6,7,2,1 32,6,7,0,2 left 64");
        KIT.due("none come of a page whose second row is wrong", opened("RT\1\0" + page("\2\3\4\0\4")), "3,0,64,5,-1 left 64");
    }

    private static void leftOverBytes() {
        KIT.says("LEFT OVER are bytes that no NODE but the whole has.");
        KIT.due("of CHUNKS", left(Formats.chunks(end()) + "abc"), "7");
        KIT.due("of PACK", left(Formats.pack("a", "b")), "0");
        KIT.due("of ROWS", left("RT\1\0" + page("\0") + "abc"), "7");
        KIT.due("of a FAULT at once", left("PKabc"), "5");
    }

    // ---- promises 35 to 37

    private static void nodeNumbers() {
        KIT.says("NODE i: what = 0 KIND, 1 from, 2 to, 3 VALUE, 4 parent (of NODE 0 NONE). BAD.");
        Desk x = with(Formats.pack());
        KIT.due("before open", x.node(0, 0, 0), -2);
        x.open(0, 0);
        KIT.due("NODES", x.nodes(0), "2,0,7,0,-1 24,0,7,0,0 ");
        int[][] wrong = {{0, 2, 0}, {0, -1, 0}, {0, MAX, 0}, {0, MIN, 0}, {0, 0, -1}, {0, 0, 5}, {0, 1, 5}, {0, 1, -1}, {0, 1, -5}, {1, 0, 0}, {-1, 0, 0}};
        for (int[] w : wrong) KIT.due("node " + w[0] + ", " + w[1] + ", " + w[2], x.node(w[0], w[1], w[2]), -2);
    }

    private static void openedNumbers() {
        KIT.says("What = 0 how many NODES it has, 1 how many bytes are LEFT OVER, 2 its TREE, 3 its FILE. BAD.");
        Desk x = Desk.mounted(new Image(4).entry(0, "n", '5', 0, 0).entry(1, "p", '0', 9, 0).text(128, Formats.pack() + "ab"));
        x.mount(0);
        KIT.due("open", x.open(1, 1), 0);
        int[] due = {2, 2, 1, 1};
        for (int what = 0; what < 4; what++) KIT.due("what = " + what, x.opened(0, what), due[what]);
        KIT.due("what = 4", x.opened(0, 4), -2);
        KIT.due("what = -1", x.opened(0, -1), -2);
        KIT.due("OPEN 1", x.opened(1, 0), -2);
        KIT.due("OPEN -1", x.opened(-1, 0), -2);
        KIT.due("the greatest OPEN", x.opened(MAX, 0), -2);
    }

    private static void insideNumbers() {
        KIT.says("INSIDE: the FILE. BAD: no NODE of KIND 22; FULL.");
        Desk x = with(Formats.pack("a", "1", "b", ""));
        x.open(0, 0);
        int[] nodes = {0, 1, 2, 4, 5, 7, 8, 9, 10, -1, MAX, MIN};
        for (int node : nodes) KIT.due("NODE " + node, x.inside(0, node), -2);
        KIT.due("OPEN 1", x.inside(1, 3), -2);
        KIT.due("OPEN -1", x.inside(-1, 3), -2);
        KIT.due("none came", x.tree(0, 7), 0);
        KIT.due("NODE 6", x.inside(0, 6), 1);
        KIT.due("NODE 3", x.inside(0, 3), 2);
        KIT.due("INSIDE ones", x.tree(0, 7) + x.names(0), "2f b a ");
    }

    private static void insideTheSame() {
        KIT.says("asked again for these bytes of the FILE, also by another OPEN of it, it is the same");
        Image m = new Image(9);
        String p = Formats.pack("a", "", "b", "");
        m.entry(0, "p", '0', p.length(), 0).text(64, p).entry(2, "q", '0', p.length(), 0).text(192, p);
        Desk x = Desk.mounted(m);
        x.mount(0);
        x.open(0, 0);
        x.open(0, 0);
        x.open(0, 1);
        x.open(1, 0);
        KIT.due("the first", x.inside(0, 3), 2);
        KIT.due("again", x.inside(0, 3), 2);
        KIT.due("by another OPEN", x.inside(1, 3), 2);
        KIT.due("other bytes, though none", x.inside(1, 6), 3);
        KIT.due("of another FILE", x.inside(2, 3), 4);
        KIT.due("of another TREE", x.inside(3, 3), 2);
        KIT.due("INSIDE ones", x.tree(0, 7) + " " + x.tree(1, 7), "3 1");
    }

    private static void insideFields() {
        KIT.says("NAME its name, ALTERED its seconds, GRADE that of the FILE it is in, parent that, one deeper; it has no BLOCKS.");
        String p = Formats.entry("q/\0", "xyz", 0xFFFFFFFFL) + Formats.entry("z", "", 0);
        int first = p.length();
        p += "PK\1\2\3q/\0\0\0" + "PK\1\2\1z" + Formats.low(21, 2) + "PK\5\6\2" + Formats.low(first, 2);
        Image m = Image.cells(20, 1, 1, 1, 0).root(0, "D", 16, 2, 0).chain(2, 2).row(3 * 64, "P", 0, 3, p.length()).chain(3, 4).text(4 * 64, p).root(1, "\u00e5", 0, 8, p.length()).text(9 * 64, p);
        Desk x = Desk.mounted(m);
        KIT.due("names", x.names(0), "D P ? @9 ");
        x.open(0, 1);
        x.open(0, 2);
        x.open(0, 3);
        KIT.due("of a living one", x.inside(0, 3), 4);
        KIT.due("fields", x.fields(0, 4), "1 3 -1 4294967295 -1 5 1 0 2 0 3 ");
        KIT.due("NAME", x.nameOf(0, 4), "q/\0");
        KIT.due("content", x.contentOf(0, 4), "xyz");
        KIT.due("no BLOCK, no slack", x.block(0, 4, 0) + " " + x.slack(0, 4, 0), "-1 -1");
        KIT.due("without bytes, of seconds 0", x.inside(0, 6), 5);
        KIT.due("fields, too", x.fields(0, 5), "1 0 -1 0 -1 5 1 0 2 0 0 ");
        KIT.due("no content, no slack", x.content(0, 5, 0) + " " + x.slack(0, 5, 0), "-1 -1");
        KIT.due("of a LOST one", x.inside(1, 3), 6);
        KIT.due("its GRADE, parent, depth", x.field(0, 6, 5) + " " + x.field(0, 6, 6) + " " + x.field(0, 6, 8), "3 2 1");
        KIT.due("of one CUT OUT", x.inside(2, 3), 7);
        KIT.due("its GRADE, parent, depth, too", x.field(0, 7, 5) + " " + x.field(0, 7, 6) + " " + x.field(0, 7, 8), "2 3 1");
        Image l = Image.cells(20, 1, 1, 1, 0).root(0, "\u00e5", 0, 2, 17).text(3 * 64, Formats.entry("a", "1", 5));
        Desk y = Desk.mounted(l);
        y.open(0, 0);
        KIT.due("of a LOST one, where none live and none is CUT OUT", y.inside(0, 3) + " " + y.names(0), "1 ? a ");
        KIT.due("it is not found", x.found(0, "D/P/q/\0") + " " + x.found(0, "D/P/z"), "-1 -1");
    }

    private static void insideOfInside() {
        KIT.says("INSIDE: a NODE of KIND 22 becomes a FILE of the same TREE");
        String chunks = Formats.chunks(Formats.chunk("tIME", "\0\0\0\7"), end());
        String mid = Formats.pack("in", chunks);
        Desk x = with(Formats.pack("mid", mid, "c", chunks));
        x.open(0, 0);
        KIT.due("CHUNKS in a PACK", x.inside(0, 6), 1);
        KIT.due("open", x.open(0, 1), 1);
        KIT.due("its KIND", x.node(1, 0, 0) + " " + x.node(1, 0, 3), "1 0");
        KIT.due("a PACK in a PACK", x.inside(0, 3), 2);
        KIT.due("open, too", x.open(0, 2), 2);
        KIT.due("its NODES are told in it", x.node(2, 0, 1) + " " + x.node(2, 0, 2) + " " + x.node(2, 3, 1), "0 " + mid.length() + " 17");
        KIT.due("CHUNKS in that", x.inside(2, 3), 3);
        KIT.due("depths", x.field(0, 1, 8) + " " + x.field(0, 2, 8) + " " + x.field(0, 3, 8), "1 1 2");
        KIT.due("open, once more", x.open(0, 3), 3);
        KIT.due("its bytes", x.nodes(3).substring(0, 30), "1,0,28,0,-1 10,4,18,1950960965");
        KIT.due("their moments", x.lines(), "7,1,0,1,3 7,1,0,3,3 100,1,0,2,1 100,1,0,3,1 200,1,0,1,1 ");
    }

    private static void insideThirty() {
        KIT.says("30 at most of a TREE");
        String[] entries = new String[64];
        for (int i = 0; i < 32; i++) {
            entries[2 * i] = "n";
            entries[2 * i + 1] = "";
        }
        Desk x = with(Formats.pack(entries));
        x.open(0, 0);
        for (int i = 0; i < 30; i++) KIT.due("INSIDE " + i, x.inside(0, 3 + 3 * i), 1 + i);
        KIT.due("a 31st", x.inside(0, 93), -3);
        KIT.due("the 30th again", x.inside(0, 90), 30);
        KIT.due("the first again", x.inside(0, 3), 1);
        KIT.due("BAD before FULL", x.inside(0, 94), -2);
        KIT.due("tree(0, 7)", x.tree(0, 7), 30);
        KIT.due("FILE 30", x.field(0, 30, 0), 1);
        KIT.due("FILE 31", x.field(0, 31, 0), -2);
    }
}
