/** Promises 12 to 18: parts, volumes, what is joined. */
public final class VolumesTest {
    private static final Kit KIT = new Kit("Volumes");

    public static void main(String[] args) {
        partsOfOneTable();
        furtherTables();
        sixteenTables();
        plainVolumes();
        linesAndStripes();
        mirrors();
        parity();
        parityWithoutAMember();
        joinsWithinJoins();
        wrongJoins();
        KIT.finish();
    }

    private static void table(DiskEvidence x, int sector) {
        x.poke(0, 64 * sector + 62, 0x55);
        x.poke(0, 64 * sector + 63, 0xAA);
    }

    private static void row(DiskEvidence x, int sector, int row, int kind, int begin, int count) {
        int at = 64 * sector + 16 + 8 * row;
        x.poke(0, at, kind);
        Kit.poke2(x, 0, at + 2, begin);
        Kit.poke2(x, 0, at + 4, count);
    }

    private static String part(DiskEvidence x, int i) {
        StringBuilder s = new StringBuilder();
        for (int what = 0; what < 6; what++) s.append(x.part(0, i, what)).append(' ');
        return s.toString();
    }

    private static void partsOfOneTable() {
        DiskEvidence x = new DiskEvidence();
        x.blank(20);
        row(x, 0, 0, 7, 1, 5);
        row(x, 0, 2, 1, 5, 15);
        row(x, 0, 3, 255, 6, 300);
        KIT.due("parts without a table", x.parts(0), 0);
        table(x, 0);
        KIT.due("parts", x.parts(0), 3);
        KIT.due("part 0", part(x, 0), "7 1 5 0 0 1 ");
        KIT.due("part 1", part(x, 1), "1 5 15 0 0 0 ");
        KIT.due("part 2", part(x, 2), "255 6 300 0 1 1 ");
        KIT.due("part(0, 3, 0)", x.part(0, 3, 0), -2);
        KIT.due("part(0, -1, 0)", x.part(0, -1, 0), -2);
        KIT.due("part(0, 0, 6)", x.part(0, 0, 6), -2);
        KIT.due("part(0, 0, -1)", x.part(0, 0, -1), -2);
        KIT.due("part(1, 0, 0)", x.part(1, 0, 0), -2);
        KIT.due("parts(1)", x.parts(1), -2);
        row(x, 0, 2, 1, 1000, 15);
        row(x, 0, 3, 255, 1014, 0);
        KIT.due("in common beyond the picture: none", part(x, 1), "1 1000 15 0 1 -1 ");
        KIT.due("of no sectors", part(x, 2), "255 1014 0 0 1 -1 ");
        row(x, 0, 3, 255, 1014, 1);
        KIT.due("in common beyond the picture", part(x, 2), "255 1014 1 0 1 1 ");
        x.spoil(0, 0, true);
        KIT.due("a table that is spoilt", x.parts(0), 0);
    }

    private static void furtherTables() {
        DiskEvidence x = new DiskEvidence();
        x.blank(20);
        table(x, 0);
        table(x, 4);
        table(x, 9);
        row(x, 0, 0, 1, 1, 1);
        row(x, 0, 1, 5, 4, 3);
        row(x, 0, 2, 2, 2, 1);
        row(x, 0, 3, 5, 10, 1);
        row(x, 4, 0, 5, 5, 0);
        row(x, 4, 1, 3, 3, 2);
        row(x, 9, 0, 4, 1, 1);
        row(x, 9, 1, 5, 0, 1);
        row(x, 9, 2, 5, 11, 1);
        row(x, 9, 3, 6, 2, 1);
        KIT.due("parts of three tables", x.parts(0), 5);
        KIT.due("part 0", part(x, 0), "1 1 1 0 0 -1 ");
        KIT.due("part 1", part(x, 1), "4 10 1 9 0 -1 ");
        KIT.due("part 2", part(x, 2), "6 11 1 9 0 -1 ");
        KIT.due("part 3", part(x, 3), "3 7 2 4 0 -1 ");
        KIT.due("part 4", part(x, 4), "2 2 1 0 0 -1 ");
    }

    private static void sixteenTables() {
        DiskEvidence x = new DiskEvidence();
        x.blank(30);
        for (int i = 0; i < 20; i++) {
            table(x, i);
            row(x, i, 0, 1, 20, 1);
            row(x, i, 1, 5, 1, 1);
            row(x, i, 2, 2, 20, 1);
        }
        KIT.due("sixteen tables at most", x.parts(0), 32);
        KIT.due("the table of part 15", x.part(0, 15, 3), 15);
        KIT.due("the table of part 16", x.part(0, 16, 3), 15);
        KIT.due("the table of part 31", x.part(0, 31, 3), 0);
    }

    private static void plainVolumes() {
        DiskEvidence x = new DiskEvidence();
        x.blank(5);
        x.blank(9);
        KIT.due("volume(1, 2, 7)", x.volume(1, 2, 7), 0);
        KIT.due("volume(1, 2, 8)", x.volume(1, 2, 8), -2);
        KIT.due("volume(1, 9, 0)", x.volume(1, 9, 0), -2);
        KIT.due("volume(1, -1, 2)", x.volume(1, -1, 2), -2);
        KIT.due("volume(2, 0, 1)", x.volume(2, 0, 1), -2);
        KIT.due("volume(1, 1, max)", x.volume(1, 1, Integer.MAX_VALUE), -2);
        KIT.due("blocks(0)", x.blocks(0), 7);
        KIT.due("blocks(1)", x.blocks(1), -2);
        KIT.due("where(0, 6)", x.where(0, 6), 1008);
        KIT.due("where(0, 7)", x.where(0, 7), -2);
        KIT.due("where(0, -1)", x.where(0, -1), -2);
        x.poke(1, 64 * 2 + 3, 77);
        KIT.due("volumeByte(0, 3)", x.volumeByte(0, 3), 77);
        KIT.due("volumeByte(0, 447)", x.volumeByte(0, 447), 0);
        KIT.due("volumeByte(0, 448)", x.volumeByte(0, 448), -2);
        KIT.due("volumeByte(0, -1)", x.volumeByte(0, -1), -2);
        KIT.due("volumeByte(1, 0)", x.volumeByte(1, 0), -2);
        for (int i = 1; i < 12; i++) KIT.due("volume " + i, x.volume(0, 0, 1), i);
        KIT.due("a 13th volume", x.volume(0, 0, 1), -3);
        KIT.due("a bad 13th", x.volume(0, 0, 6), -2);
        KIT.due("a 13th that is joined", x.join(1, 0, 1, -1), -3);
        KIT.due("a bad joined 13th", x.join(1, 0, 0, -1), -2);
    }

    /** Three pictures of 4, 6 and 5 sectors, each sector full of a byte of its own, and their volumes. */
    private static DiskEvidence three() {
        DiskEvidence x = new DiskEvidence();
        int[] sizes = {4, 6, 5};
        for (int p = 0; p < 3; p++) {
            Image m = new Image(sizes[p]);
            for (int i = 0; i < sizes[p]; i++) m.fill(64 * i, 64, 16 * (p + 1) + i);
            Kit.text(x, m.packed());
            x.picture();
            x.volume(p, 0, sizes[p]);
        }
        return x;
    }

    private static String first(DiskEvidence x, int volume) {
        StringBuilder s = new StringBuilder();
        for (int b = 0; b < x.blocks(volume); b++) s.append(x.volumeByte(volume, 64 * b)).append(' ');
        return s.toString();
    }

    private static String places(DiskEvidence x, int volume) {
        StringBuilder s = new StringBuilder();
        for (int b = 0; b < x.blocks(volume); b++) s.append(x.where(volume, b)).append(' ');
        return s.toString();
    }

    private static void linesAndStripes() {
        DiskEvidence x = three();
        KIT.due("a line of two", x.join(1, 2, 0, -1), 3);
        KIT.due("its blocks", places(x, 3), "2000 2001 2002 2003 2004 0 1 2 3 ");
        KIT.due("its bytes", first(x, 3), "48 49 50 51 52 16 17 18 19 ");
        KIT.due("a line of three", x.join(1, 0, 1, 2), 4);
        KIT.due("its size", x.blocks(4), 15);
        KIT.due("where(4, 10)", x.where(4, 10), 2000);
        KIT.due("stripes of two", x.join(2, 1, 2, -1), 5);
        KIT.due("their blocks", places(x, 5), "1000 2000 1001 2001 1002 2002 1003 2003 1004 2004 ");
        KIT.due("stripes of three", x.join(2, 1, 2, 0), 6);
        KIT.due("their blocks, too", places(x, 6), "1000 2000 0 1001 2001 1 1002 2002 2 1003 2003 3 ");
    }

    private static void mirrors() {
        DiskEvidence x = three();
        KIT.due("a mirror", x.join(3, 0, 1, -1), 3);
        KIT.due("its blocks", places(x, 3), "0 1 2 3 ");
        KIT.due("without the first", x.join(3, -1, 1, -1), 4);
        KIT.due("its blocks, too", places(x, 4), "1000 1001 1002 1003 1004 1005 ");
        KIT.due("without the second", x.join(3, 0, -1, -1), 5);
        KIT.due("format of a mirror", x.format(3, 3, 0), 0);
        KIT.due("all members are written", x.byteAt(0, 0) + x.byteAt(1, 3 * 64), 0);
        KIT.due("but what is behind", x.byteAt(1, 4 * 64), 36);
        Kit.save(x, 3, "f", "abc");
        KIT.due("the first has it", x.byteAt(0, 64), 'a');
        KIT.due("the second has it", x.byteAt(1, 64), 'a');
        x.spoil(0, 1, true);
        KIT.due("the first is read, spoilt or not", x.volumeByte(3, 64), 0);
    }

    private static void parity() {
        DiskEvidence x = three();
        KIT.due("parity", x.join(4, 0, 1, 2), 3);
        KIT.due("its blocks", places(x, 3), "1000 2000 1 2001 2 1002 1003 2003 ");
        KIT.due("format", x.format(3, 3, 0), 0);
        KIT.due("save", Kit.save(x, 3, "a", "abcd"), 1);
        KIT.due("block 0 lies in member 1", x.byteAt(1, 0), 'a');
        KIT.due("block 1 in member 2", x.byteAt(2, 0), 'a');
        KIT.due("their parity in member 0", x.byteAt(0, 0), 0);
        KIT.due("and of their second bytes", x.byteAt(0, 1), 'b');
        KIT.due("save again", Kit.save(x, 3, "b", "xyz"), 1);
        KIT.due("block 2 lies in member 0", x.byteAt(0, 64), 'b');
        KIT.due("block 3 in member 2", x.byteAt(2, 64), 'x');
        KIT.due("their parity in member 1", x.byteAt(1, 64), 'b' ^ 'x');
        x.poke(2, 64, 0);
        KIT.due("read as it is", x.volumeByte(3, 3 * 64), 0);
    }

    private static void parityWithoutAMember() {
        DiskEvidence x = three();
        KIT.due("without member 1", x.join(4, 0, -1, 2), 3);
        KIT.due("its size", x.blocks(3), 8);
        KIT.due("its blocks", places(x, 3), "-1 2000 1 2001 2 -1 -1 2003 ");
        KIT.due("block 0 is reckoned", x.volumeByte(3, 0), 16 ^ 48);
        KIT.due("format", x.format(3, 3, 0), 0);
        KIT.due("all is 0", first(x, 3), "0 0 0 0 0 0 0 0 ");
        KIT.due("save", Kit.save(x, 3, "k", Kit.many('m', 200)), 4);
        KIT.due("the parity of row 0", x.byteAt(0, 0), 'k' ^ 'm');
        KIT.due("block 0 as it was saved", x.volumeByte(3, 0), 'k');
        KIT.due("block 1 in member 2", x.byteAt(2, 0), 'm');
        Kit.save(x, 3, "l", Kit.many('n', 100));
        KIT.due("the file is there", x.volumeByte(3, 6 * 64) * 1000 + x.volumeByte(3, 7 * 64), 'n' * 1000 + 'n');
        KIT.due("block 5 is reckoned, too", x.volumeByte(3, 5 * 64), 'l');
        KIT.due("without the parity's member", x.join(4, -1, 1, 2), 4);
        KIT.due("its blocks, too", places(x, 4), "1000 2000 -1 2001 -1 1002 1003 2003 -1 2004 ");
    }

    private static void joinsWithinJoins() {
        DiskEvidence x = three();
        x.join(2, 0, 2, -1);
        x.join(3, 3, 1, -1);
        KIT.due("a line with a member of its member", x.join(1, 4, 3, 1), 5);
        KIT.due("its size", x.blocks(5), 6 + 8 + 6);
        KIT.due("where(5, 1)", x.where(5, 1), 2000);
        KIT.due("where(5, 8)", x.where(5, 8), 1);
        KIT.due("where(5, 19)", x.where(5, 19), 1005);
        x.format(5, 3, 0);
        Kit.save(x, 5, "q", "1");
        KIT.due("written through all", x.byteAt(0, 0) * 1000 + x.byteAt(1, 0), 'q' * 1000 + 'q');
        x.join(4, 5, -1, 1);
        KIT.due("a missing one within", x.where(6, 0), -1);
    }

    private static void wrongJoins() {
        DiskEvidence x = three();
        int[][] wrong = {{0, 0, 1, -1}, {5, 0, 1, -1}, {1, 0, -1, 1}, {1, -1, 0, 1}, {1, 0, 0, -1}, {1, 0, 1, 0}, {1, 0, 3, -1},
            {2, 0, -1, -1}, {2, 0, 1, 3}, {2, 0, 1, -2}, {3, 0, 1, 2}, {3, -1, -1, -1}, {3, 1, 1, -1}, {3, 3, -1, -1},
            {4, 0, -1, -1}, {4, -1, -1, 2}, {4, 0, 1, 1}, {4, 0, 1, 9}};
        for (int[] j : wrong) KIT.due("join(" + j[0] + ", " + j[1] + ", " + j[2] + ", " + j[3] + ")", x.join(j[0], j[1], j[2], j[3]), -2);
        KIT.due("no volume came", x.count(2), 3);
        x.blank(128);
        x.blank(128);
        x.volume(3, 0, 128);
        x.volume(4, 0, 128);
        KIT.due("257 blocks", x.join(1, 3, 4, 0), -3);
        KIT.due("256 blocks", x.join(1, 3, 4, -1), 5);
        KIT.due("stripes of 256", x.join(2, 3, 4, -1), 6);
        KIT.due("stripes of 15", x.join(2, 3, 4, 2), 7);
        KIT.due("their size", x.blocks(7), 15);
        KIT.due("parity of 256", x.join(4, 3, 4, 5), 8);
        KIT.due("parity of more", x.join(4, 5, 6, 8), -3);
        x.poke(3, 127 * 64 + 5, 9);
        x.poke(4, 127 * 64 + 5, 8);
        KIT.due("the last block", x.volumeByte(8, 255 * 64 + 5), 9);
        KIT.due("the last but one", x.volumeByte(8, 254 * 64 + 5), 9);
        KIT.due("format of 256 blocks", x.format(8, 3, 0), 0);
        KIT.due("the last sectors", x.byteAt(3, 127 * 64 + 5) + x.byteAt(4, 127 * 64 + 5), 0);
    }
}
