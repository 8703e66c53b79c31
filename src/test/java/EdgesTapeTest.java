/** Boundary cases of TAPE in "3 FORMS" and of promises 19 to 22, each by the sentence that names it. */
public final class EdgesTapeTest {
    private static final Kit KIT = new Kit("EdgesTape");

    public static void main(String[] args) {
        formats();
        headers();
        sizes();
        momentsAtTheirGreatest();
        whatStoodThere();
        full();
        folders();
        paths();
        answersInTheirOrder();
        walksWithAFault();
        emptiedAndKept();
        neverErased();
        KIT.finish();
    }

    private static long all(Desk x) {
        return x.crc(0, 0, 64 * x.sectors(0));
    }

    private static void formats() {
        KIT.says("3 TAPE: 0; n is how many BLOCKS it has. 0. BAD: another argument; FORM, and nothing is done");
        Desk x = Desk.of(new Image(3).fill(0, 192, 7));
        KIT.due("1", x.format(0, 3, 1), -2);
        KIT.due("-1", x.format(0, 3, -1), -2);
        KIT.due("nothing is done", x.volumeByte(0, 0), 7);
        KIT.due("0", x.format(0, 3, 0), 0);
        KIT.due("all 0", all(x), Kit.crc(new byte[192]));
        Desk y = Desk.of(new Image(1).fill(0, 64, 7));
        KIT.due("one BLOCK", y.format(0, 3, 0), 0);
        KIT.due("an entry fills it", y.saved(0, "a", ""), 0);
        KIT.due("no other", y.foldered(0, "b"), -3);
        y.mount(0);
        KIT.due("n", y.tree(0, 5), 1);
        KIT.due("its FILE", y.names(0), "a ");
    }

    private static void headers() {
        KIT.says("0 .. 23 the path (0s behind), 24 '0' file or '5' folder, 25 .. 31 the size, 32 .. 43 ALTERED (seconds), 44 .. 50 the SUM, each in octal digits, filled up with 0s in front; 51 .. 55 \"tape1\", 0s.");
        Desk x = Desk.blanks(5);
        KIT.due("save at 0", x.saved(0, "a", "bc"), 1);
        x.tick(7);
        KIT.due("folder", x.foldered(0, "123456789/12345678901234"), 0);
        Image m = new Image(5).entry(0, "a", '0', 2, 0).text(64, "bc").entry(2, "123456789/12345678901234", '5', 0, 7);
        KIT.due("all bytes", all(x), Kit.crc(m.a));
        KIT.says("SUM: that of all bytes of the HEADER, 44 .. 50 taken as blanks (32).");
        KIT.due("of signs above 127, too", x.saved(0, "\u00ff\u00ff", ""), 0);
        KIT.due("all bytes, too", all(x), Kit.crc(m.entry(3, "\u00ff\u00ff", '0', 0, 7).a));
        KIT.due("it is a HEADER", x.mount(0), 0);
        KIT.due("FILES", x.tree(0, 1) + " " + x.tree(0, 4), "3 0");
    }

    private static void sizes() {
        KIT.says("SAVE: how many CLUSTERS or DATA BLOCKS with contents the file has.");
        int[] sizes = {0, 1, 64, 65, 128, 511, 512, 513};
        for (int size : sizes) {
            Desk x = Desk.blanks(12);
            int need = (size + 63) / 64;
            KIT.due("save of " + size, x.saved(0, "f", Kit.many('x', size)), need);
            KIT.due("its size of " + size, x.bytes(25, 7), Image.octal(size, 7));
            KIT.due("the next entry of " + size, x.saved(0, "g", ""), 0);
            KIT.due("is right behind " + size, x.volumeByte(0, 64 * (1 + need)), 'g');
        }
    }

    private static void momentsAtTheirGreatest() {
        KIT.says("32 .. 43 ALTERED (seconds)");
        Desk x = Desk.blanks(3);
        x.tick(1000000000);
        x.tick(1000000000);
        x.saved(0, "f", "");
        KIT.due("2000000000", x.bytes(32, 12), "016715312000");
        x.mount(0);
        KIT.due("told so", x.field(0, 0, 3), 2000000000);
        Desk y = Desk.mounted(new Image(2).entry(0, "f", '0', 0, 0xFFFFFFFFFL));
        KIT.due("twelve digits of 7", y.field(0, 0, 3), 0xFFFFFFFFFL);
        Desk z = Desk.mounted(new Image(2).entry(0, "f", '0', 07777777, 0));
        KIT.due("seven digits of 7", z.field(0, 0, 10), 07777777);
    }

    private static void whatStoodThere() {
        KIT.says("Entries, each a HEADER BLOCK and the file's BLOCKS (0s behind its end)");
        Desk x = Desk.of(new Image(6).entry(0, "a", '5', 0, 0).fill(128, 256, 9));
        KIT.due("save behind BLOCK 0", x.saved(0, "b", Kit.many('b', 65)), 2);
        KIT.due("all bytes", all(x), Kit.crc(new Image(6).entry(0, "a", '5', 0, 0).entry(1, "b", '0', 65, 0).fill(128, 65, 'b').fill(256, 128, 9).a));
        KIT.says("a BLOCK of 0s need not follow");
        KIT.due("what follows is no HEADER", x.saved(0, "c", ""), -5);
    }

    private static void full() {
        KIT.says("TAPE: the entry comes behind the last one (FULL: too few BLOCKS; a BLOCK of 0s need not follow); folders need not be there.");
        Desk x = Desk.blanks(4);
        KIT.due("four BLOCKS and a HEADER", x.saved(0, "a", Kit.many('a', 193)), -3);
        KIT.due("nothing is done", all(x), Kit.crc(new byte[256]));
        KIT.due("three BLOCKS and a HEADER", x.saved(0, "a", Kit.many('a', 192)), 3);
        KIT.due("no bytes and no BLOCK", x.saved(0, "b", ""), -3);
        KIT.due("a folder and no BLOCK", x.foldered(0, "b"), -3);
        Desk y = Desk.blanks(4);
        y.saved(0, "a", Kit.many('a', 65));
        KIT.due("a byte and one BLOCK", y.saved(0, "b", "b"), -3);
        KIT.due("no bytes and one BLOCK", y.saved(0, "b", ""), 0);
        KIT.due("no more", y.saved(0, "c", ""), -3);
    }

    private static void folders() {
        KIT.says("PATH also if anything is there; TAPE: never for that");
        Desk x = Desk.blanks(9);
        KIT.due("a folder", x.foldered(0, "d"), 0);
        KIT.due("again", x.foldered(0, "d"), 0);
        KIT.due("a file of that path", x.saved(0, "d", "x"), 1);
        KIT.due("a folder of a file's path", x.foldered(0, "d"), 0);
        KIT.says("folders need not be there");
        KIT.due("in none", x.saved(0, "q/r", ""), 0);
        KIT.due("a folder in none", x.foldered(0, "s/t"), 0);
        KIT.due("in a file", x.saved(0, "q/r/u", ""), 0);
        KIT.says("one BLOCK of 0s (TAPE: none)");
        x.mount(0);
        KIT.due("FILES and LOST ones", x.tree(0, 1) + " " + x.tree(0, 2), "4 3");
        KIT.due("BLOCKS of the folder", x.field(0, 0, 7), 0);
    }

    private static void paths() {
        KIT.says("NAMES as with NODES; a path has 24 bytes at most there.");
        String[] good = {"a", "123456789/12345678901234", "12345678901234/123456789", "a/b/c/d/e/f", "\1\u00ff ."};
        for (String path : good) {
            KIT.due("save " + path, Desk.blanks(3).saved(0, path, "c"), 1);
            KIT.due("folder " + path, Desk.blanks(3).foldered(0, path), 0);
        }
        String[] wrong = {"", "1234567890/12345678901234", "123456789012345", "a/123456789012345", "a/b/c/d/e/f/g", "/", "a/", "/a", "a//b"};
        for (String path : wrong) {
            KIT.due("save " + path, Desk.blanks(3).saved(0, path, "c"), -4);
            KIT.due("folder " + path, Desk.blanks(3).foldered(0, path), -4);
        }
        KIT.says("a byte 0 in them is none of a path; so with all but SAVE and find()");
        KIT.due("a byte 0 in a folder's path", Desk.blanks(3).foldered(0, "a\0b"), -4);
    }

    private static void answersInTheirOrder() {
        KIT.says("PATH: it is none, or its folder is not there, or a folder is (TAPE: the first alone); FULL.");
        Desk x = Desk.blanks(2);
        KIT.due("no path, too many bytes", x.saved(0, "a/", Kit.many('x', 65)), -4);
        KIT.due("too many bytes", x.saved(0, "a/b", Kit.many('x', 65)), -3);
        KIT.due("a file", x.saved(0, "a", "x"), 1);
        KIT.due("no path, no BLOCK", x.foldered(0, ""), -4);
        KIT.due("no BLOCK", x.foldered(0, "a"), -3);
        x.poke(0, 0, 'b');
        KIT.due("FORM, no path", x.saved(0, "", ""), -5);
        KIT.due("FORM, no BLOCK", x.foldered(0, "a"), -5);
    }

    private static void walksWithAFault() {
        KIT.says("the first of FORM: it is not GOOD, or a TAPE whose walk has a FAULT");
        Desk x = Desk.of(new Image(6).entry(0, "a", '5', 0, 0).b(64, 1));
        x.add(new Image(6).entry(0, "a", '0', 320, 0));
        x.add(new Image(6).entry(0, "a", '0', 321, 0));
        x.add(new Image(6).entry(0, "a", '0', 256, 0));
        KIT.due("FAULT 9", x.saved(0, "b", ""), -5);
        KIT.due("to the VOLUME'S end", x.saved(1, "b", ""), -3);
        KIT.due("one BLOCK beyond it, FAULT 10", x.saved(2, "b", ""), -5);
        KIT.due("a folder, FAULT 10", x.foldered(2, "b"), -5);
        KIT.due("another without a FAULT", x.saved(3, "b", ""), 0);
        KIT.due("FAULT 9 again", x.saved(0, "b", ""), -5);
        x.poke(0, 64, 0);
        KIT.due("no FAULT now", x.saved(0, "b", ""), 0);
    }

    private static void emptiedAndKept() {
        KIT.says("BAD; else COLLECTED are empty then");
        Desk x = Desk.blanks(2);
        x.put("a");
        KIT.due("save(1)", x.save(1), -2);
        KIT.due("COLLECTED stay", x.count(0), 1);
        KIT.due("folder(0)", x.folder(0), 0);
        KIT.due("COLLECTED", x.count(0), 0);
        KIT.due("FULL", x.saved(0, "b", Kit.many('b', 65)), -3);
        KIT.due("COLLECTED behind FULL", x.count(0), 0);
        x.poke(0, 64, 1);
        KIT.due("FORM", x.saved(0, "b", ""), -5);
        KIT.due("COLLECTED behind FORM", x.count(0), 0);
    }

    private static void neverErased() {
        KIT.says("(TAPE: never.)");
        Desk x = Desk.blanks(3);
        x.saved(0, "a", "");
        long before = all(x);
        KIT.due("what is there", x.erased(0, "a"), -5);
        KIT.due("COLLECTED", x.count(0), 0);
        KIT.due("what is not there", x.erased(0, "b"), -5);
        KIT.due("no path", x.erased(0, ""), -5);
        KIT.due("nothing is done", all(x), before);
        KIT.due("an empty TAPE", Desk.blanks(3).erased(0, "a"), -5);
    }
}
