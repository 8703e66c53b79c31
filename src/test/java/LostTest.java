/** What is lost and what is cut out (part 5 of the document; promises 24, 26, 29 to 33). */
public final class LostTest {
    private static final Kit KIT = new Kit("Lost");

    public static void main(String[] args) {
        lostCells();
        gradesOfCells();
        lostInFolders();
        fortyLost();
        lostNodes();
        gradesOfNodes();
        lostEntries();
        cutOut();
        cutOutOfRuns();
        twentyCutOut();
        KIT.finish();
    }

    private static void lostCells() {
        DiskEvidence x = Kit.disk(20);
        x.format(0, 1, 48 * 8 + 2);
        x.tick(100);
        Kit.save(x, 0, "AB.TXT", Kit.many('a', 100));
        x.tick(10);
        Kit.erase(x, 0, "AB.TXT");
        x.mount(0);
        KIT.due("tree", x.tree(0, 1) + " " + x.tree(0, 2) + " " + x.tree(0, 4), "0 1 0");
        KIT.due("its name", Kit.name(x, 0, 0), "?B.TXT");
        KIT.due("its fields", Kit.fields(x, 0, 0), "1 100 50 50 -1 3 -1 2 0 0 100 ");
        KIT.due("its blocks are free", Kit.blocks(x, 0, 0) + x.owner(0, 4), "4 5 0");
        KIT.due("its content", Kit.content(x, 0, 0), Kit.many('a', 100));
        KIT.due("its slack", x.slack(0, 0, 27) + " " + x.slack(0, 0, 28), "0 -1");
        KIT.due("it can't be found", Kit.find(x, 0, "?B.TXT"), -1);
    }

    private static void gradesOfCells() {
        DiskEvidence x = Kit.disk(20);
        x.format(0, 1, 48 * 8 + 6);
        Kit.save(x, 0, "A", Kit.many('a', 180));
        Kit.save(x, 0, "B", "b");
        Kit.save(x, 0, "C", Kit.many('c', 180));
        Kit.save(x, 0, "D", "");
        Kit.save(x, 0, "E", Kit.many('e', 64 * 6));
        Kit.folder(x, 0, "F");
        for (char c = 'A'; c <= 'F'; c++) if (c != 'B') KIT.due("erase " + c, Kit.erase(x, 0, "" + c), 0);
        Kit.save(x, 0, "G", Kit.many('g', 65));
        x.mount(0);
        KIT.due("names", Kit.names(x, 0), "G B ? ? ? ");
        KIT.due("C, D, E", x.field(0, 2, 5) + " " + x.field(0, 3, 5) + " " + x.field(0, 4, 5), "3 3 3");
        Kit.poke4(x, 0, 128 + 4 * 32 + 28, 64 * 9 - 1);
        Kit.poke2(x, 0, 128 + 3 * 32 + 26, 5);
        Kit.poke4(x, 0, 128 + 3 * 32 + 28, 1);
        Kit.poke2(x, 0, 64 + 2 * 7, 0xFFF7);
        x.mount(0);
        KIT.due("C has a gap", x.field(1, 2, 5) + ": " + Kit.blocks(x, 1, 2), "2: 10 12 13 ");
        KIT.due("D begins where another file is", x.field(1, 3, 5) + " " + x.field(1, 3, 7) + " " + x.field(1, 3, 1), "1 0 0");
        KIT.due("E has too few", x.field(1, 4, 5) + ": " + Kit.blocks(x, 1, 4) + x.field(1, 4, 1), "2: 13 14 15 16 17 18 19 448");
        Kit.poke2(x, 0, 128 + 2 * 32 + 26, 1);
        Kit.poke2(x, 0, 128 + 3 * 32 + 26, 0);
        x.mount(0);
        KIT.due("first clusters that are none", x.field(2, 2, 5) + " " + x.field(2, 3, 5), "1 1");
        KIT.due("no faults", x.field(2, 2, 9) + x.tree(2, 4), 0);
    }

    private static void lostInFolders() {
        DiskEvidence x = Kit.disk(30);
        x.format(0, 1, 48 * 8 + 2);
        Kit.folder(x, 0, "D");
        Kit.save(x, 0, "D/X", "x");
        Kit.save(x, 0, "D/Y", "y");
        Kit.folder(x, 0, "D/E");
        Kit.save(x, 0, "Z", "z");
        Kit.erase(x, 0, "Z");
        Kit.erase(x, 0, "D/E");
        Kit.erase(x, 0, "D/X");
        x.mount(0);
        KIT.due("in the order met", Kit.names(x, 0), "D Y ? ? ");
        KIT.due("depth and parent", x.field(0, 2, 8) + " " + x.field(0, 2, 6) + " " + x.field(0, 3, 8) + " " + x.field(0, 3, 6), "1 0 0 -1");
        Kit.erase(x, 0, "D/Y");
        Kit.erase(x, 0, "D");
        x.mount(0);
        KIT.due("those of a folder that is not walked are not met", Kit.names(x, 1), "? ");
    }

    private static void fortyLost() {
        DiskEvidence x = Kit.disk(100);
        x.format(0, 1, 48 * 8 + 6);
        Kit.folder(x, 0, "D");
        for (int i = 0; i < 42; i++) Kit.save(x, 0, "D/F" + i, "");
        for (int i = 0; i < 42; i++) Kit.erase(x, 0, "D/F" + i);
        x.mount(0);
        KIT.due("forty", x.tree(0, 2), 40);
        KIT.due("the last", Kit.name(x, 0, 40), "?39");
        DiskEvidence t = Kit.disk(60);
        t.format(0, 3, 0);
        for (int i = 0; i < 43; i++) Kit.save(t, 0, "same", i == 41 ? "41" : "");
        t.mount(0);
        KIT.due("forty entries", t.tree(0, 1) + " " + t.tree(0, 2), "1 40");
        KIT.due("what is behind them", t.owner(0, 41) + " " + t.owner(0, 42) + " " + t.owner(0, 43), "4 0 4");
    }

    private static void lostNodes() {
        DiskEvidence x = Kit.disk(40);
        x.format(0, 2, 8);
        x.tick(100);
        Kit.save(x, 0, "first", Kit.many('f', 64 * 8));
        Kit.folder(x, 0, "d");
        Kit.save(x, 0, "d/e", "abc");
        x.tick(20);
        Kit.erase(x, 0, "d/e");
        Kit.erase(x, 0, "d");
        Kit.erase(x, 0, "first");
        x.mount(0);
        KIT.due("names", Kit.names(x, 0), "#2 #3 #4 ");
        KIT.due("first", Kit.fields(x, 0, 0), "1 512 100 100 120 4 -1 8 0 0 512 ");
        KIT.due("a folder is a file then", Kit.fields(x, 0, 1), "1 64 100 100 120 4 -1 1 0 0 64 ");
        KIT.due("e", Kit.fields(x, 0, 2), "1 3 100 100 120 4 -1 1 0 0 3 ");
        KIT.due("blocks", Kit.blocks(x, 0, 0), "12 13 14 15 16 17 18 20 ");
        KIT.due("content", x.content(0, 0, 0) + " " + x.content(0, 0, 511) + " " + x.content(0, 0, 512), "102 102 -1");
        Kit.poke4(x, 0, 192 + 32 + 12, 0);
        Kit.poke4(x, 0, 192 + 64 + 12, 0xFFFFFFFFL);
        Kit.poke2(x, 0, 192 + 96 + 2, 3000);
        x.mount(0);
        KIT.due("erased at 0 is none", Kit.names(x, 1), "#3 #4 ");
        KIT.due("a late moment", x.field(1, 0, 4), 0xFFFFFFFFL);
        KIT.due("39 places", x.field(1, 1, 7) + " " + x.field(1, 1, 1) + " " + x.field(1, 1, 10) + " " + x.field(1, 1, 5), "39 2496 3000 3");
        KIT.due("places as they stand", x.block(1, 1, 0) + " " + x.block(1, 1, 1) + " " + x.content(1, 1, 64) + " " + x.tree(1, 4), "22 -1 0 0");
    }

    private static void gradesOfNodes() {
        DiskEvidence x = Kit.disk(40);
        x.format(0, 2, 4);
        x.tick(10);
        Kit.save(x, 0, "a", Kit.many('a', 128));
        Kit.save(x, 0, "b", Kit.many('b', 128));
        Kit.save(x, 0, "c", "c");
        Kit.save(x, 0, "e", "");
        Kit.erase(x, 0, "c");
        x.tick(10);
        for (int i = 0; i < 3; i++) Kit.erase(x, 0, new String[] {"a", "b", "e"}[i]);
        Kit.poke2(x, 0, 192 + 32 + 18, 10);
        x.mount(0);
        KIT.due("names", Kit.names(x, 0), "#2 #3 #4 #5 ");
        KIT.due("of the same moment the greater number", x.field(0, 0, 5) + " " + x.field(0, 1, 5), "3 4");
        KIT.due("without places", x.field(0, 3, 5), 4);
        Kit.poke2(x, 0, 192 + 64 + 16, 12);
        x.mount(0);
        KIT.due("erased earlier", x.field(1, 2, 5) + " " + x.field(1, 1, 5), "1 4");
        Kit.poke2(x, 0, 192 + 32 + 16, 39);
        Kit.poke2(x, 0, 192 + 64 + 18, 40);
        x.mount(0);
        KIT.due("any free block is one", x.field(2, 0, 5), 4);
        KIT.due("the first is so, the other none", x.field(2, 1, 5) + " " + x.block(2, 1, 1), "3 -1");
        x.spoil(0, 12, true);
        KIT.due("no grade is below 0", x.claimed(x.claim(1, 2, 1, 0), 0), 0);
        x.spoil(0, 12, false);
        x.poke(0, 192 + 5 * 32, 1);
        Kit.poke2(x, 0, 192 + 5 * 32 + 2, 64);
        Kit.poke4(x, 0, 192 + 5 * 32 + 12, 999);
        Kit.poke2(x, 0, 192 + 5 * 32 + 16, 9);
        x.mount(0);
        KIT.due("a node of another KIND does not count", x.field(3, 0, 5), 4);
        Kit.save(x, 0, "n", "n");
        Kit.poke2(x, 0, 192 + 64 + 16, 8);
        x.mount(0);
        KIT.due("taken by a file", Kit.names(x, 4) + x.owner(4, 8) + " " + x.field(4, 1, 5), "n #3 #4 #5 16 1");
    }

    private static void lostEntries() {
        DiskEvidence x = Kit.disk(12);
        x.format(0, 3, 0);
        x.tick(5);
        Kit.save(x, 0, "b", "1");
        Kit.folder(x, 0, "a");
        Kit.save(x, 0, "a", "2");
        Kit.save(x, 0, "b", "3");
        Kit.save(x, 0, "b", "4");
        x.mount(0);
        KIT.due("names", Kit.names(x, 0), "a b b a b ");
        KIT.due("a lost folder", Kit.fields(x, 0, 3), "2 0 -1 5 -1 4 -1 0 0 0 0 ");
        KIT.due("contents", Kit.content(x, 0, 2) + Kit.content(x, 0, 4) + Kit.content(x, 0, 1), "134");
        KIT.due("owners", Kit.owners(x, 0), "4 18 4 4 16 4 20 4 17 0 0 0 ");
    }

    private static void cutOut() {
        DiskEvidence x = Kit.disk(24);
        x.format(0, 2, 3);
        x.tick(3);
        String chunks = Formats.chunks(Formats.chunk("abcd", Kit.many('x', 80)), Formats.chunk("IEND", ""));
        String pack = Formats.pack("n", "123");
        Kit.save(x, 0, "a", chunks);
        Kit.save(x, 0, "b", pack + "more");
        Kit.save(x, 0, "c", pack.substring(0, pack.length() - 2));
        Kit.save(x, 0, "e", Formats.rows(1));
        for (int i = 0; i < 3; i++) Kit.erase(x, 0, new String[] {"a", "b", "c"}[i]);
        x.mount(0);
        KIT.due("names", Kit.names(x, 0), "e #2 #3 #4 @7 @9 ");
        KIT.due("tree", x.tree(0, 1) + " " + x.tree(0, 2) + " " + x.tree(0, 3), "1 3 2");
        KIT.due("chunks", Kit.fields(x, 0, 4), "1 104 -1 -1 -1 2 -1 2 0 0 104 ");
        KIT.due("blocks", Kit.blocks(x, 0, 4), "7 8 ");
        KIT.due("as far as its structure goes", Kit.content(x, 0, 5), pack);
        KIT.due("slack", x.slack(0, 5, 0), 'm');
        KIT.due("no owner", x.owner(0, 7), 0);
        x.poke(0, 7 * 64 + 90, 0);
        x.mount(0);
        KIT.due("a wrong CRC is no fault", x.tree(1, 3), 2);
        x.poke(0, 7 * 64 + 6, 1);
        x.mount(0);
        KIT.due("a wrong letter is", Kit.names(x, 2), "e #2 #3 #4 @9 ");
    }

    private static void cutOutOfRuns() {
        DiskEvidence x = Kit.disk(8);
        x.format(0, 3, 0);
        String chunks = Formats.chunks(Formats.chunk("abcd", Kit.many('x', 64 * 2)), Formats.chunk("IEND", ""));
        Kit.write(x, 0, 64 * 2, Kit.raw(chunks));
        x.mount(0);
        KIT.due("three blocks", Kit.names(x, 0) + Kit.blocks(x, 0, 0), "@2 2 3 4 ");
        DiskEvidence y = Kit.disk(10);
        y.format(0, 1, 48 * 8);
        Kit.write(y, 0, 64 * 4, Kit.raw(chunks));
        Kit.poke2(y, 0, 64 + 2 * 5, 0xFFFF);
        y.mount(0);
        KIT.due("block 6 is taken", y.owner(0, 6) + " " + y.tree(0, 3), "5 0");
        Kit.poke2(y, 0, 64 + 2 * 5, 0);
        y.poke(0, 4, 5);
        y.mount(0);
        KIT.due("beyond n, too", Kit.names(y, 1), "@4 ");
        String within = Formats.chunks(Formats.chunk("abcd", Kit.many('x', 54) + Formats.chunks(Formats.chunk("IEND", ""))), Formats.chunk("IEND", ""));
        DiskEvidence z = Kit.disk(8);
        Kit.write(z, 0, 64 * 3, Kit.raw(within));
        z.mount(0);
        KIT.due("those blocks are not looked at again", Kit.names(z, 0), "@3 ");
        z.poke(0, 64 * 3, 0);
        z.mount(0);
        KIT.due("one that begins within", Kit.names(z, 1), "@4 ");
    }

    private static void twentyCutOut() {
        DiskEvidence x = Kit.disk(128);
        for (int b = 100; b < 122; b++) Kit.write(x, 0, 64 * b, Kit.raw(Formats.pack()));
        x.mount(0);
        KIT.due("twenty", x.tree(0, 3), 20);
        KIT.due("three digits", Kit.name(x, 0, 5), "@105");
        KIT.due("of seven bytes", x.field(0, 19, 1), 7);
    }
}
