/** Boundary cases of "2 VOLUMES" and of promises 12 to 18, each by the sentence that names it. */
public final class EdgesVolumesTest {
    private static final Kit KIT = new Kit("EdgesVolumes");
    private static final int MAX = Integer.MAX_VALUE, MIN = Integer.MIN_VALUE;

    public static void main(String[] args) {
        tablesEndSo();
        fourRows();
        kindsOfParts();
        beginIsToldFromItsTable();
        furtherTablesInThePicture();
        furtherTablesOnce();
        furtherTablesBeforeTheNextRow();
        fewerThanSixteenTables();
        partsAreReadAnew();
        partFirstAndLast();
        partsBeyondThePicture();
        partsInCommon();
        volumesOfSectors();
        volumesAreTwelve();
        lines();
        stripes();
        mirrors();
        parities();
        joinedNumbers();
        joinedMembersOnce();
        joinedMembersMissing();
        joinedAre256Blocks();
        joinedWhenFull();
        volumeBytes();
        whereBlocksLie();
        mirrorsAreWrittenToAll();
        parityIsWritten();
        parityAsItWasReadBefore();
        parityWithoutAMember();
        parityWithinParity();
        elevenDeep();
        linesElevenDeep();
        sectorsInSeveralVolumes();
        KIT.finish();
    }

    // ---- TABLES OF PARTS

    private static int parts(Image m) {
        return Desk.of(m).parts(0);
    }

    private static void tablesEndSo() {
        KIT.says("bytes 62, 63 are 0x55, 0xAA.");
        KIT.due("so", parts(new Image(3).table(0).part(0, 0, 1, 1, 1)), 1);
        KIT.due("byte 62 is another", parts(new Image(3).table(0).part(0, 0, 1, 1, 1).b(62, 0x54)), 0);
        KIT.due("byte 63 is another", parts(new Image(3).table(0).part(0, 0, 1, 1, 1).b(63, 0xAB)), 0);
        KIT.due("the other way round", parts(new Image(3).part(0, 0, 1, 1, 1).b(62, 0xAA).b(63, 0x55)), 0);
        KIT.says("SECTOR 0 may be one");
        KIT.due("SECTOR 1 alone is none", parts(new Image(3).table(1).part(1, 0, 1, 1, 1)), 0);
        KIT.due("in a PICTURE of one SECTOR", parts(new Image(1).table(0).part(0, 0, 1, 0, 1)), 1);
        KIT.says("0 without a table. BAD.");
        Desk x = Desk.of(new Image(1));
        KIT.due("without one", x.parts(0), 0);
        KIT.due("PICTURE 1", x.parts(1), -2);
        KIT.due("PICTURE -1", x.parts(-1), -2);
        KIT.says("its bytes are read as 0 then");
        KIT.due("SPOILT", parts(new Image(3).table(0).part(0, 0, 1, 1, 1).spoil(0)), 0);
        KIT.due("a further one that is SPOILT", parts(new Image(3).table(0).part(0, 0, 5, 1, 1).table(1).part(1, 0, 1, 1, 1).spoil(1)), 0);
    }

    private static void fourRows() {
        KIT.says("four ROWS of 8 bytes from byte 16 on");
        Image m = new Image(9).table(0);
        m.part(0, -1, 1, 1, 1).part(0, 4, 1, 1, 1).part(0, 5, 1, 1, 1);
        KIT.due("before and behind them", parts(m), 0);
        for (int row = 0; row < 4; row++) m.part(0, row, 1 + row, row, 1);
        Desk x = Desk.of(m);
        KIT.due("all four", x.parts(0), 4);
        KIT.due("the first one's KIND", x.part(0, 0, 0), 1);
        KIT.due("the last one's KIND", x.part(0, 3, 0), 4);
    }

    private static void kindsOfParts() {
        KIT.says("KIND (0 none, 5 a further one, others)");
        int[] kinds = {0, 1, 4, 5, 6, 127, 128, 255};
        for (int kind : kinds) KIT.due("KIND " + kind, parts(new Image(3).table(0).part(0, 1, kind, 1, 1)), kind == 0 || kind == 5 ? 0 : 1);
        KIT.due("KIND 255 is told so", Desk.of(new Image(3).table(0).part(0, 1, 255, 1, 1)).part(0, 0, 0), 255);
        KIT.says("ROWS whose KIND is not 0 and not 5, in the order in which they are met");
        KIT.due("of 0 SECTORS from SECTOR 0 on", parts(new Image(3).table(0).part(0, 3, 1, 0, 0)), 1);
    }

    private static void beginIsToldFromItsTable() {
        KIT.says("begin is told from the SECTOR of that table on");
        Image m = new Image(30).table(0).part(0, 0, 1, 0, 3).part(0, 1, 5, 7, 1).table(7).part(7, 0, 2, 0, 4).part(7, 1, 5, 11, 1).table(18).part(18, 0, 3, 1, 2).part(18, 1, 4, 65535, 65535);
        Desk x = Desk.of(m);
        KIT.due("parts", x.parts(0), 4);
        KIT.due("of SECTOR 0", x.part(0, 0, 1) + " " + x.part(0, 0, 3), "0 0");
        KIT.due("of SECTOR 7", x.part(0, 1, 1) + " " + x.part(0, 1, 3), "7 7");
        KIT.due("of SECTOR 18", x.part(0, 2, 1) + " " + x.part(0, 2, 3), "19 18");
        KIT.says("begin, count (two bytes each)");
        KIT.due("the greatest", x.part(0, 3, 1) + " " + x.part(0, 3, 2), (65535 + 18) + " 65535");
        KIT.due("the lowest byte first", Desk.of(new Image(1).table(0).part(0, 0, 1, 0x0102, 0x0304)).part(0, 0, 2), 0x0304);
    }

    private static void furtherTablesInThePicture() {
        KIT.says("if it is in the PICTURE, ends so, was none before, and there were fewer than 16 (SECTOR 0's counts)");
        KIT.due("the last SECTOR", parts(new Image(4).table(0).part(0, 0, 5, 3, 1).table(3).part(3, 0, 1, 0, 1)), 1);
        KIT.due("behind it", parts(new Image(4).table(0).part(0, 0, 5, 4, 1)), 0);
        KIT.due("far behind it", parts(new Image(4).table(0).part(0, 0, 5, 65535, 1).part(0, 1, 1, 1, 1)), 1);
        KIT.due("one that does not end so", parts(new Image(4).table(0).part(0, 0, 5, 3, 1).part(3, 0, 1, 0, 1).b(3 * 64 + 62, 0x55)), 0);
    }

    private static void furtherTablesOnce() {
        KIT.says("was none before");
        KIT.due("itself", parts(new Image(4).table(0).part(0, 0, 5, 0, 1).part(0, 1, 1, 1, 1)), 1);
        KIT.due("twice the same", parts(new Image(4).table(0).part(0, 0, 5, 2, 1).part(0, 1, 5, 2, 1).table(2).part(2, 0, 1, 1, 1)), 1);
        Image m = new Image(9).table(0).part(0, 0, 5, 1, 1).part(0, 1, 5, 2, 1);
        m.table(1).part(1, 0, 5, 1, 1).part(1, 1, 1, 5, 1).table(2).part(2, 0, 2, 5, 1);
        Desk x = Desk.of(m);
        KIT.due("met before from another table", x.parts(0), 2);
        KIT.due("the first is that of SECTOR 2", x.part(0, 0, 3), 2);
    }

    private static void furtherTablesBeforeTheNextRow() {
        KIT.says("looked at when it comes, before the next ROW");
        Image m = new Image(9).table(0).part(0, 0, 1, 1, 1).part(0, 1, 5, 2, 1).part(0, 2, 2, 1, 1).part(0, 3, 5, 4, 1);
        m.table(2).part(2, 0, 3, 1, 1).part(2, 3, 4, 1, 1).table(4).part(4, 3, 6, 1, 1);
        Desk x = Desk.of(m);
        StringBuilder kinds = new StringBuilder();
        for (int i = 0; i < x.parts(0); i++) kinds.append(x.part(0, i, 0)).append(' ');
        KIT.due("KINDS", kinds.toString(), "1 3 4 2 6 ");
    }

    private static void fewerThanSixteenTables() {
        KIT.says("there were fewer than 16 (SECTOR 0's counts)");
        Image m = new Image(40);
        for (int i = 0; i < 17; i++) m.table(i).part(i, 0, 5, 1, 1).part(i, 1, 1, 1, 1);
        Desk x = Desk.of(m);
        KIT.due("one behind the other", x.parts(0), 16);
        KIT.due("the deepest is the 16th", x.part(0, 0, 3), 15);
        KIT.due("the last is SECTOR 0's", x.part(0, 15, 3), 0);
        Image w = new Image(40).table(0);
        for (int i = 0; i < 4; i++) {
            w.part(0, i, 5, 1 + 5 * i, 1).table(1 + 5 * i);
            for (int k = 0; k < 4; k++) w.part(1 + 5 * i, k, 5, 1 + k, 1).table(2 + 5 * i + k).part(2 + 5 * i + k, 0, 1, 9, 1);
        }
        Desk y = Desk.of(w);
        KIT.due("side by side: 0, 1 to 5, 6 to 10, 11 to 15", y.parts(0), 12);
        KIT.due("the last one's table", y.part(0, 11, 3), 15);
        Image v = new Image(40);
        for (int i = 0; i < 16; i++) {
            v.table(i);
            for (int k = 0; k < 4; k++) v.part(i, k, 7, 20, 1);
            if (i < 15) v.part(i, 3, 5, 1, 1);
        }
        KIT.due("as many PARTS as there can be in such a row", parts(v), 15 * 3 + 4);
    }

    private static void partsAreReadAnew() {
        KIT.says("How many PARTS the TABLES OF PARTS of a PICTURE have");
        Desk x = Desk.of(new Image(9).table(0).part(0, 0, 1, 1, 2).part(0, 1, 2, 2, 2));
        KIT.due("two", x.parts(0), 2);
        KIT.due("in common", x.part(0, 0, 5), 1);
        x.poke(0, 24, 0);
        KIT.due("one now", x.parts(0), 1);
        KIT.due("none in common now", x.part(0, 0, 5), -1);
        x.poke(0, 63, 0);
        KIT.due("none now", x.parts(0), 0);
        KIT.due("PART 0", x.part(0, 0, 0), -2);
    }

    private static void partFirstAndLast() {
        KIT.says("PART i: what = 0 KIND, 1 its first SECTOR, 2 how many, 3 the SECTOR of its table, 4 whether its first SECTOR and how many are together above the SECTORS of the PICTURE (1 or 0), 5 the first other PART that has a SECTOR in common with it, also beyond the PICTURE (NONE). BAD.");
        Desk x = Desk.of(new Image(9).table(0).part(0, 0, 1, 1, 2).part(0, 3, 2, 3, 2));
        KIT.due("what = -1", x.part(0, 0, -1), -2);
        KIT.due("what = 6", x.part(0, 0, 6), -2);
        KIT.due("what = the greatest int", x.part(0, 0, MAX), -2);
        KIT.due("PART -1", x.part(0, -1, 0), -2);
        KIT.due("PART 2", x.part(0, 2, 0), -2);
        KIT.due("PART 1", x.part(0, 1, 0), 2);
        KIT.due("the greatest PART", x.part(0, MAX, 0), -2);
        KIT.due("the least PART", x.part(0, MIN, 0), -2);
        KIT.due("PICTURE 1", x.part(1, 0, 0), -2);
        KIT.due("PICTURE -1", x.part(-1, 0, 0), -2);
    }

    private static void partsBeyondThePicture() {
        KIT.says("4 whether its first SECTOR and how many are together above the SECTORS of the PICTURE (1 or 0)");
        Desk x = Desk.of(new Image(9).table(0).part(0, 0, 1, 0, 9).part(0, 1, 1, 8, 2).part(0, 2, 1, 9, 0).part(0, 3, 1, 10, 0));
        KIT.due("all SECTORS", x.part(0, 0, 4), 0);
        KIT.due("one more", x.part(0, 1, 4), 1);
        KIT.due("none from the end on", x.part(0, 2, 4), 0);
        KIT.due("none behind it", x.part(0, 3, 4), 1);
    }

    private static void partsInCommon() {
        KIT.says("5 the first other PART that has a SECTOR in common with it, also beyond the PICTURE (NONE)");
        Desk x = Desk.of(new Image(9).table(0).part(0, 0, 1, 1, 3).part(0, 1, 1, 4, 3).part(0, 2, 1, 3, 2).part(0, 3, 1, 4, 0));
        KIT.due("the last of its SECTORS", x.part(0, 0, 5), 2);
        KIT.due("side by side are not; the first of its SECTORS", x.part(0, 1, 5), 2);
        KIT.due("of two the first", x.part(0, 2, 5), 0);
        KIT.due("of no SECTORS", x.part(0, 3, 5), -1);
        Desk y = Desk.of(new Image(2).table(0).part(0, 0, 1, 60000, 1000).part(0, 1, 1, 60999, 9).part(0, 2, 1, 61008, 1).part(0, 3, 1, 60100, 1));
        KIT.due("beyond the PICTURE", y.part(0, 0, 5) + " " + y.part(0, 1, 5) + " " + y.part(0, 2, 5), "1 0 -1");
        KIT.due("within another", y.part(0, 3, 5), 0);
        Desk z = Desk.of(new Image(9).table(0).part(0, 0, 1, 2, 2).part(0, 1, 2, 2, 2));
        KIT.due("the same SECTORS", z.part(0, 0, 5) * 10 + z.part(0, 1, 5), 10);
    }

    // ---- VOLUMES

    private static void volumesOfSectors() {
        KIT.says("A VOLUME of so many SECTORS (1 and more) of a PICTURE from one on: its number. BAD: also if they are not all there; FULL.");
        Desk x = new Desk();
        x.blank(5);
        KIT.due("none", x.volume(0, 0, 0), -2);
        KIT.due("-1", x.volume(0, 1, -1), -2);
        KIT.due("six", x.volume(0, 0, 6), -2);
        KIT.due("two from the last on", x.volume(0, 4, 2), -2);
        KIT.due("one from the end on", x.volume(0, 5, 1), -2);
        KIT.due("none from the end on", x.volume(0, 5, 0), -2);
        KIT.due("from -1", x.volume(0, -1, 1), -2);
        KIT.due("where an int wraps around", x.volume(0, 1, MAX), -2);
        KIT.due("and from there", x.volume(0, MAX, 1), -2);
        KIT.due("PICTURE 1", x.volume(1, 0, 1), -2);
        KIT.due("PICTURE -1", x.volume(-1, 0, 1), -2);
        KIT.due("no VOLUME came", x.count(2), 0);
        KIT.due("all", x.volume(0, 0, 5), 0);
        KIT.due("the last", x.volume(0, 4, 1), 1);
        KIT.says("How many BLOCKS a VOLUME has. BAD.");
        KIT.due("blocks(0)", x.blocks(0), 5);
        KIT.due("blocks(1)", x.blocks(1), 1);
        KIT.due("blocks(2)", x.blocks(2), -2);
        KIT.due("blocks(-1)", x.blocks(-1), -2);
    }

    private static void volumesAreTwelve() {
        KIT.says("VOLUMES, 12 at most");
        Desk x = new Desk();
        x.blank(5);
        for (int i = 0; i < 12; i++) KIT.due("VOLUME " + i, x.volume(0, i % 5, 1), i);
        KIT.due("a 13th", x.volume(0, 0, 1), -3);
        KIT.due("count(2)", x.count(2), 12);
        KIT.due("where(11, 0)", x.where(11, 0), 1);
        KIT.due("blocks(12)", x.blocks(12), -2);
        KIT.due("where(12, 0)", x.where(12, 0), -2);
        KIT.due("volumeByte(12, 0)", x.volumeByte(12, 0), -2);
        KIT.due("format(12, 3, 0)", x.format(12, 3, 0), -2);
        KIT.due("mount(12)", x.mount(12), -2);
        KIT.says("BAD goes first in all calls");
        KIT.due("a 13th of none", x.volume(0, 0, 0), -2);
        KIT.due("a 13th not all there", x.volume(0, 4, 2), -2);
    }

    /** PICTURES and VOLUMES of 3, 5 and 4 SECTORS; each is full of 10 p + its number + 1. */
    private static Desk three() {
        Desk x = new Desk();
        int[] sizes = {3, 5, 4};
        for (int p = 0; p < 3; p++) {
            Image m = new Image(sizes[p]);
            for (int i = 0; i < sizes[p]; i++) m.fill(64 * i, 64, 10 * p + i + 1);
            x.add(m);
        }
        return x;
    }

    private static String places(Desk x, int volume) {
        StringBuilder s = new StringBuilder();
        int n = x.blocks(volume);
        for (int b = 0; b < n; b++) s.append(x.where(volume, b)).append(' ');
        return s.toString();
    }

    private static void lines() {
        KIT.says("1 LINE of two or three: one behind the other (all BLOCKS).");
        Desk x = three();
        KIT.due("of two", x.join(1, 1, 0, -1), 3);
        KIT.due("its BLOCKS", places(x, 3), "1000 1001 1002 1003 1004 0 1 2 ");
        KIT.due("of three", x.join(1, 2, 0, 1), 4);
        KIT.due("its BLOCKS, too", places(x, 4), "2000 2001 2002 2003 0 1 2 1000 1001 1002 1003 1004 ");
        KIT.due("the last byte of its first member", x.volumeByte(4, 4 * 64 - 1), 24);
        KIT.due("the first byte of its second one", x.volumeByte(4, 4 * 64), 1);
        KIT.due("the first byte of its third one", x.volumeByte(4, 7 * 64), 11);
        KIT.due("its last byte", x.volumeByte(4, 12 * 64 - 1), 15);
    }

    private static void stripes() {
        KIT.says("2 STRIPES of k (two or three): BLOCK b is BLOCK b / k of member b % k (k s BLOCKS).");
        Desk x = three();
        KIT.due("of two", x.join(2, 1, 2, -1), 3);
        KIT.due("their BLOCKS", places(x, 3), "1000 2000 1001 2001 1002 2002 1003 2003 ");
        KIT.due("of three", x.join(2, 1, 2, 0), 4);
        KIT.due("their BLOCKS, too", places(x, 4), "1000 2000 0 1001 2001 1 1002 2002 2 ");
    }

    private static void mirrors() {
        KIT.says("3 MIRROR of two, one of which may be missing: BLOCK b of the first that is there; written to all (s).");
        Desk x = three();
        KIT.due("of two", x.join(3, 1, 0, -1), 3);
        KIT.due("its BLOCKS", places(x, 3), "1000 1001 1002 ");
        KIT.due("the first is missing", x.join(3, -1, 2, -1), 4);
        KIT.due("its BLOCKS", places(x, 4), "2000 2001 2002 2003 ");
        KIT.due("the second is missing", x.join(3, 1, -1, -1), 5);
        KIT.due("its BLOCKS, too", places(x, 5), "1000 1001 1002 1003 1004 ");
        KIT.due("both are missing", x.join(3, -1, -1, -1), -2);
        KIT.due("a third one", x.join(3, 0, 1, 2), -2);
        KIT.due("a third one and one is missing", x.join(3, -1, 1, 2), -2);
    }

    private static void parities() {
        KIT.says("BLOCK b lies in row q = b / 2, that is BLOCK q of each member: member q % 3 has the parity (the other two xored), the other two, in order, BLOCKS 2 q and 2 q + 1 (2 s BLOCKS)");
        Desk x = three();
        x.join(1, 1, 2, -1);
        x.join(1, 2, 0, -1);
        KIT.due("of 3, 5 and 4", x.join(4, 0, 1, 2), 5);
        KIT.due("its BLOCKS", places(x, 5), "1000 2000 1 2001 2 1002 ");
        KIT.due("of 9, 7 and 5", x.join(4, 3, 4, 1), 6);
        KIT.due("rows 3 and 4 as rows 0 and 1", places(x, 6), "2000 1000 1001 1001 1002 2002 2003 1003 1004 1004 ");
    }

    private static void joinedNumbers() {
        KIT.says("A JOINED VOLUME of a kind 1 .. 4: its number.");
        Desk x = three();
        KIT.due("kind 0", x.join(0, 0, 1, -1), -2);
        KIT.due("kind 5", x.join(5, 0, 1, -1), -2);
        KIT.due("kind -1", x.join(-1, 0, 1, -1), -2);
        KIT.due("the greatest kind", x.join(MAX, 0, 1, -1), -2);
        KIT.says("JOINED ones are of earlier VOLUMES, their members");
        KIT.due("VOLUME 3 of itself", x.join(1, 0, 3, -1), -2);
        KIT.due("VOLUME -2", x.join(1, 0, -2, -1), -2);
        KIT.due("c = -2", x.join(1, 0, 1, -2), -2);
        KIT.due("c = 3", x.join(4, 0, 1, 3), -2);
        KIT.due("a = the greatest int", x.join(3, MAX, 1, -1), -2);
        KIT.due("a = the least int", x.join(3, MIN, 1, -1), -2);
        KIT.due("none came", x.count(2), 3);
        for (int kind = 1; kind <= 4; kind++) KIT.due("kind " + kind, x.join(kind, 0, 1, kind == 3 ? -1 : 2), 2 + kind);
    }

    private static void joinedMembersOnce() {
        KIT.says("BAD: no such kind, VOLUMES, the same twice, too few");
        Desk x = three();
        for (int kind = 1; kind <= 4; kind++) {
            KIT.due("a, a, kind " + kind, x.join(kind, 1, 1, -1), -2);
            KIT.due("a, b, a, kind " + kind, x.join(kind, 1, 0, 1), -2);
            KIT.due("a, b, b, kind " + kind, x.join(kind, 0, 1, 1), -2);
            KIT.due("a, a, c, kind " + kind, x.join(kind, 1, 1, 2), -2);
        }
        KIT.due("none came", x.count(2), 3);
        KIT.says("(A SECTOR may be in several VOLUMES.)");
        x.volume(1, 0, 5);
        KIT.due("the same SECTORS twice", x.join(1, 1, 3, -1), 4);
        KIT.due("a member and what has it", x.join(1, 4, 1, -1), 5);
    }

    private static void joinedMembersMissing() {
        KIT.says("Members a, b, c (NONE: c not wanted; in MIRROR, PARITY one that is missing; in MIRROR c is NONE).");
        Desk x = three();
        for (int kind = 1; kind <= 2; kind++) {
            KIT.due("a missing, kind " + kind, x.join(kind, -1, 1, 2), -2);
            KIT.due("b missing, kind " + kind, x.join(kind, 0, -1, 2), -2);
            KIT.due("one alone, kind " + kind, x.join(kind, 0, -1, -1), -2);
            KIT.due("the last alone, kind " + kind, x.join(kind, -1, -1, 0), -2);
            KIT.due("none, kind " + kind, x.join(kind, -1, -1, -1), -2);
        }
        KIT.due("PARITY of one, a", x.join(4, 0, -1, -1), -2);
        KIT.due("PARITY of one, b", x.join(4, -1, 0, -1), -2);
        KIT.due("PARITY of one, c", x.join(4, -1, -1, 0), -2);
        KIT.due("PARITY of none", x.join(4, -1, -1, -1), -2);
        KIT.due("MIRROR of c alone", x.join(3, -1, -1, 0), -2);
        KIT.due("none came", x.count(2), 3);
        KIT.says("s is the least number of BLOCKS of those that are there");
        KIT.due("PARITY without a", x.join(4, -1, 1, 2), 3);
        KIT.due("of 5 and 4", x.blocks(3), 8);
        KIT.due("PARITY without b", x.join(4, 0, -1, 2), 4);
        KIT.due("of 3 and 4", x.blocks(4), 6);
        KIT.due("PARITY without c", x.join(4, 1, 2, -1), 5);
        KIT.due("of 5 and 4, too", x.blocks(5), 8);
    }

    private static void joinedAre256Blocks() {
        KIT.says("A VOLUME has 256 BLOCKS at most.");
        Desk x = new Desk();
        x.blank(128);
        x.blank(128);
        x.volume(0, 0, 128);
        x.volume(1, 0, 128);
        x.volume(0, 0, 1);
        x.volume(1, 0, 85);
        x.volume(0, 0, 86);
        KIT.due("LINE of 257", x.join(1, 0, 1, 2), -3);
        KIT.due("LINE of 256", x.join(1, 0, 1, -1), 5);
        KIT.due("blocks(5)", x.blocks(5), 256);
        KIT.due("its last BLOCK", x.where(5, 255), 1127);
        KIT.due("its last byte", x.volumeByte(5, 16383), 0);
        KIT.due("behind it", x.volumeByte(5, 16384), -2);
        KIT.due("STRIPES of 258", x.join(2, 0, 1, 4), -3);
        KIT.due("STRIPES of 255", x.join(2, 0, 1, 3), 6);
        KIT.due("STRIPES of 256", x.join(2, 0, 1, -1), 7);
        KIT.due("their last BLOCK", x.where(7, 255), 1127);
        KIT.due("MIRROR of 256", x.join(3, 5, 7, -1), 8);
        KIT.due("its BLOCKS", x.blocks(8), 256);
        KIT.due("PARITY of 256", x.join(4, 0, 5, -1), 9);
        KIT.due("PARITY of 510", x.join(4, 5, 6, -1), -3);
        x.volume(0, 0, 1);
        KIT.due("129", x.join(1, 0, 10, -1), 11);
        KIT.due("count(2)", x.count(2), 12);
        Desk y = new Desk();
        y.blank(128);
        y.volume(0, 0, 128);
        y.volume(0, 0, 1);
        y.volume(0, 0, 128);
        y.volume(0, 1, 1);
        y.join(1, 0, 1, -1);
        y.join(1, 2, 3, -1);
        KIT.due("PARITY of 258", y.join(4, 4, 5, -1), -3);
        KIT.due("STRIPES of two of 129", y.join(2, 4, 5, -1), -3);
    }

    private static void joinedWhenFull() {
        KIT.says("FULL: 12, or it would have more than 256 BLOCKS.");
        Desk x = new Desk();
        x.blank(128);
        for (int i = 0; i < 11; i++) x.volume(0, 0, 128);
        KIT.due("the twelfth", x.join(3, 0, 1, -1), 11);
        KIT.due("a 13th", x.join(3, 0, 1, -1), -3);
        KIT.due("a 13th of 384 BLOCKS", x.join(1, 0, 1, 2), -3);
        KIT.says("BAD goes first in all calls");
        KIT.due("a 13th of no kind", x.join(0, 0, 1, -1), -2);
        KIT.due("a 13th of the same twice", x.join(1, 0, 0, -1), -2);
        KIT.due("a 13th of VOLUME 12", x.join(3, 0, 12, -1), -2);
        KIT.due("a 13th of too few", x.join(1, 0, -1, -1), -2);
        KIT.due("of VOLUME 11", x.where(11, 127), 127);
    }

    private static void volumeBytes() {
        KIT.says("A byte of a VOLUME. BAD.");
        Desk x = three();
        x.volume(1, 1, 3);
        KIT.due("the first", x.volumeByte(3, 0), 12);
        KIT.due("the last", x.volumeByte(3, 191), 14);
        KIT.due("behind it", x.volumeByte(3, 192), -2);
        KIT.due("-1", x.volumeByte(3, -1), -2);
        KIT.due("the greatest int", x.volumeByte(3, MAX), -2);
        KIT.due("the least int", x.volumeByte(3, MIN), -2);
        KIT.due("VOLUME 4", x.volumeByte(4, 0), -2);
        KIT.due("VOLUME -1", x.volumeByte(-1, 0), -2);
    }

    private static void whereBlocksLie() {
        KIT.says("Where a BLOCK lies: 1000 times the PICTURE, and the SECTOR; NONE: it is missing, and reckoned. BAD.");
        Desk x = three();
        x.volume(1, 1, 3);
        KIT.due("the first", x.where(3, 0), 1001);
        KIT.due("the last", x.where(3, 2), 1003);
        KIT.due("behind it", x.where(3, 3), -2);
        KIT.due("-1", x.where(3, -1), -2);
        KIT.due("the greatest int", x.where(3, MAX), -2);
        KIT.due("VOLUME 4", x.where(4, 0), -2);
        KIT.due("VOLUME -1", x.where(-1, 0), -2);
        KIT.due("PARITY without b", x.join(4, 0, -1, 2), 4);
        KIT.due("its BLOCKS", places(x, 4), "-1 2000 1 2001 2 -1 ");
        KIT.due("a LINE behind it", x.join(1, 3, 4, -1), 5);
        KIT.due("in a LINE, too", x.where(5, 3) + " " + x.where(5, 4) + " " + x.where(5, 8), "-1 2000 -1");
        x.spoil(2, 0, true);
        KIT.due("a SPOILT one lies where it lies", x.where(5, 4), 2000);
    }

    // ---- what is written

    private static void mirrorsAreWrittenToAll() {
        KIT.says("BLOCK b of the first that is there; written to all (s).");
        Desk x = three();
        x.join(3, 1, 0, -1);
        x.format(3, 3, 0);
        KIT.due("save", x.saved(3, "a", Kit.many('q', 64)), 1);
        KIT.due("the first", x.byteAt(1, 64), 'q');
        KIT.due("the second", x.byteAt(0, 64), 'q');
        KIT.due("behind s", x.byteAt(1, 3 * 64), 14);
        x.spoil(1, 1, true);
        KIT.due("the first is read, though SPOILT", x.volumeByte(3, 64), 0);
        x.spoil(1, 1, false);
        x.poke(0, 64, 'r');
        KIT.due("not the second", x.volumeByte(3, 64), 'q');
        x.join(3, -1, 0, -1);
        KIT.due("the second where the first is missing", x.volumeByte(4, 64), 'r');
    }

    private static void parityIsWritten() {
        KIT.says("when a BLOCK is written its member gets it, then the parity's member the xor of it and the row's other BLOCK as it was read before, as far as these members are there.");
        Desk x = three();
        x.join(4, 0, 1, 2);
        x.format(3, 3, 0);
        for (int p = 0; p < 3; p++) KIT.due("all 0 in PICTURE " + p, x.crc(p, 0, 192), Kit.crc(new byte[192]));
        KIT.due("behind s", x.byteAt(1, 192) + x.byteAt(2, 192), 14 + 24);
        KIT.due("save", x.saved(3, "a", Kit.many('p', 64) + Kit.many('q', 64) + Kit.many('r', 64) + Kit.many('s', 64) + "t"), 5);
        KIT.due("row 0: HEADER and p", x.byteAt(1, 0) + " " + x.byteAt(2, 0) + " " + x.byteAt(0, 0), (int) 'a' + " " + (int) 'p' + " " + ('a' ^ 'p'));
        KIT.due("row 1: q and r", x.byteAt(0, 64) + " " + x.byteAt(2, 64) + " " + x.byteAt(1, 64), (int) 'q' + " " + (int) 'r' + " " + ('q' ^ 'r'));
        KIT.due("row 2: s and t", x.byteAt(0, 128) + " " + x.byteAt(1, 128) + " " + x.byteAt(2, 128), (int) 's' + " " + (int) 't' + " " + ('s' ^ 't'));
        for (int missing = 0; missing < 3; missing++) {
            int v = x.join(4, missing == 0 ? -1 : 0, missing == 1 ? -1 : 1, missing == 2 ? -1 : 2);
            KIT.says("what is missing is the other two xored");
            KIT.due("without member " + missing, x.volumeByte(v, 0) + " " + x.volumeByte(v, 64) + " " + x.volumeByte(v, 128) + " " + x.volumeByte(v, 192) + " " + x.volumeByte(v, 256) + " " + x.volumeByte(v, 320),
                "97 112 113 114 115 116");
        }
    }

    private static void parityAsItWasReadBefore() {
        KIT.says("the xor of it and the row's other BLOCK as it was read before");
        Desk x = new Desk();
        x.blank(2);
        x.volume(0, 0, 1);
        x.volume(0, 1, 1);
        x.volume(0, 1, 1);
        KIT.due("both BLOCKS are one SECTOR", x.join(4, 0, 1, 2), 3);
        KIT.due("save", x.saved(3, "a", ""), 0);
        KIT.due("the SECTOR", x.byteAt(0, 64), 'a');
        KIT.due("the parity is of the 0 before", x.byteAt(0, 0), 'a');
        Desk y = new Desk();
        y.blank(2);
        y.volume(0, 1, 1);
        y.volume(0, 0, 1);
        y.volume(0, 1, 1);
        KIT.due("the parity is over the first BLOCK", y.join(4, 0, 1, 2), 3);
        KIT.due("save, too", y.saved(3, "a", ""), 0);
        KIT.due("it has what was written, xored with 0", y.byteAt(0, 64) + " " + y.byteAt(0, 0), "97 97");
    }

    private static void parityWithoutAMember() {
        KIT.says("as far as these members are there");
        for (int missing = 0; missing < 3; missing++) {
            Desk x = three();
            int v = x.join(4, missing == 0 ? -1 : 0, missing == 1 ? -1 : 1, missing == 2 ? -1 : 2);
            x.format(v, 3, 0);
            KIT.due("0s without " + missing, x.volumeByte(v, 0) + x.volumeByte(v, 64) + x.volumeByte(v, 128) + x.volumeByte(v, 192) + x.volumeByte(v, 256) + x.volumeByte(v, 320), 0);
            KIT.due("save without " + missing, x.saved(v, "a", Kit.many('p', 64) + Kit.many('q', 64) + Kit.many('r', 64) + Kit.many('s', 64) + "t"), 5);
            KIT.due("read without " + missing, x.volumeByte(v, 0) + " " + x.volumeByte(v, 64) + " " + x.volumeByte(v, 128) + " " + x.volumeByte(v, 192) + " " + x.volumeByte(v, 256) + " " + x.volumeByte(v, 320),
                "97 112 113 114 115 116");
            KIT.due("the missing one stays", x.byteAt(missing, 0) + " " + x.byteAt(missing, 128), (10 * missing + 1) + " " + (10 * missing + 3));
        }
    }

    private static void parityWithinParity() {
        KIT.says("its member gets it, then the parity's member the xor of it and the row's other BLOCK as it was read before");
        Desk x = new Desk();
        for (int p = 0; p < 5; p++) x.add(new Image(p < 3 ? 6 : 12));
        KIT.due("within", x.join(4, 0, 1, 2), 5);
        for (int at = 0; at < 3; at++) {
            int v = x.join(4, at == 0 ? 5 : 3, at == 1 ? 5 : at == 0 ? 3 : 4, at == 2 ? 5 : 4);
            x.format(v, 3, 0);
            KIT.due("save, member " + at, x.saved(v, "abc", "defg" + Kit.many('h', 64) + Kit.many('i', 64) + Kit.many('j', 64) + Kit.many('k', 64) + Kit.many('l', 64) + "m"), 6);
            KIT.due("read", x.volumeByte(v, 64) + " " + x.volumeByte(v, 129) + " " + x.volumeByte(v, 193) + " " + x.volumeByte(v, 257) + " " + x.volumeByte(v, 321), "100 104 105 106 107");
            for (int q = 0; q < 6; q++) {
                int within = x.byteAt(0, 64 * q + 1) ^ x.byteAt(1, 64 * q + 1) ^ x.byteAt(2, 64 * q + 1);
                int outer = x.volumeByte(5, 64 * q + 1) ^ x.byteAt(3, 64 * q + 1) ^ x.byteAt(4, 64 * q + 1);
                KIT.due("rows " + q + " are whole", within + " " + outer, "0 0");
            }
        }
    }

    private static void elevenDeep() {
        KIT.says("JOINED ones are of earlier VOLUMES, their members");
        Desk x = new Desk();
        x.blank(8);
        x.blank(8);
        x.volume(0, 0, 8);
        x.volume(1, 0, 8);
        x.join(4, 0, -1, 1);
        for (int v = 3; v < 12; v++) KIT.due("VOLUME " + v, x.join(3, v % 2 == 0 ? -1 : v - 1, v % 2 == 0 ? v - 1 : -1, -1), v);
        KIT.due("where", places(x, 11), places(x, 2));
        KIT.due("BLOCKS", x.blocks(11), 16);
        KIT.due("save", x.saved(11, "a", Kit.many('b', 64) + Kit.many('c', 64)), 2);
        KIT.due("read", x.volumeByte(11, 0) + " " + x.volumeByte(11, 64) + " " + x.volumeByte(11, 128), "97 98 99");
        KIT.due("row 0: reckoned, b and the parity", x.where(11, 0) + " " + x.byteAt(1, 0) + " " + x.byteAt(0, 0), "-1 98 " + ('a' ^ 'b'));
        x.mount(11);
        KIT.due("its FILE", x.names(0) + x.blocksOf(0, 0), "a 1 2 ");
        x.spoil(1, 0, true);
        KIT.due("a SECTOR that is read", x.claimed(x.claim(0, 0, 1, 0), 0), 4);
    }

    private static void linesElevenDeep() {
        KIT.says("JOINED ones are of earlier VOLUMES, their members");
        Desk x = new Desk();
        x.blank(4);
        x.blank(1);
        x.volume(0, 0, 4);
        x.volume(1, 0, 1);
        for (int v = 2; v < 11; v++) KIT.due("VOLUME " + v, x.join(v % 2 == 0 ? 1 : 2, v - 1 == 1 ? 0 : v - 1, 1, -1), v);
        KIT.due("BLOCKS of the ninth", x.blocks(10), 3);
        KIT.due("its BLOCKS", places(x, 10), "0 1000 1000 ");
        KIT.due("PARITY of it, one is missing", x.join(4, 10, -1, 1), 11);
        x.poke(0, 0, 'a');
        x.poke(1, 0, 'c');
        KIT.due("reckoned", x.volumeByte(11, 0), 'a' ^ 'c');
        x.poke(0, 0, 0);
        x.poke(1, 0, 0);
        KIT.due("save", x.saved(10, "f", ""), 0);
        KIT.due("it is there", x.byteAt(0, 0), 'f');
        x.mount(10);
        KIT.due("its FILE", x.names(0), "f ");
    }

    private static void sectorsInSeveralVolumes() {
        KIT.says("BLOCKS that have other bytes than before are written, by their numbers.");
        Desk x = new Desk();
        x.add(Image.cells(18, 1, 1, 1, 0).chain(2, 2).root(0, "A", 0, 2, 64).fill(3 * 64, 64, 'a'));
        x.volume(0, 3, 6);
        KIT.due("SECTOR 3 is BLOCKS 3 and 18", x.join(1, 0, 1, -1), 2);
        KIT.due("save", x.saved(2, "A", Kit.many('z', 64)), 1);
        KIT.due("BLOCK 18, unchanged, is not written over it", x.byteAt(0, 3 * 64), 'z');
        Desk y = new Desk();
        y.blank(4);
        y.volume(0, 0, 4);
        y.volume(0, 1, 3);
        y.join(1, 0, 1, -1);
        KIT.due("of two that change the later is written last", y.saved(2, "a", Kit.many('1', 64) + Kit.many('2', 64) + Kit.many('3', 64) + Kit.many('4', 64) + Kit.many('5', 64) + Kit.many('6', 64)), 6);
        KIT.due("SECTORS", y.byteAt(0, 64) + " " + y.byteAt(0, 128) + " " + y.byteAt(0, 192), (int) '4' + " " + (int) '5' + " " + (int) '6');
    }
}
