/** Promises 1 to 11: bytes, moments and pictures. */
public final class PicturesTest {
    private static final Kit KIT = new Kit("Pictures");

    public static void main(String[] args) {
        aNewObject();
        collecting();
        ticking();
        blanks();
        spoiling();
        bytesAndCrc();
        packed();
        packedFaults();
        KIT.finish();
    }

    private static void aNewObject() {
        DiskEvidence x = new DiskEvidence();
        for (int what = 0; what <= 9; what++) KIT.due("count(" + what + ") of a new object", x.count(what), 0);
        KIT.due("count(-1)", x.count(-1), -2);
        KIT.due("count(10)", x.count(10), -2);
        KIT.due("forget() of a new object", x.forget(), 0);
    }

    private static void collecting() {
        DiskEvidence x = new DiskEvidence();
        KIT.due("collect of 0 bytes", x.collect(5, 0), -2);
        KIT.due("collect of 9 bytes", x.collect(5, 9), -2);
        KIT.due("collect of 8 bytes", x.collect(0x0807060504030201L, 8), 8);
        KIT.due("collect of 2 bytes", x.collect(0x58500A09L, 2), 10);
        KIT.due("count(0)", x.count(0), 10);
        for (int i = 0; i < 498; i++) x.collect(0, 8);
        KIT.due("COLLECTED are 3994", x.count(0), 3994);
        KIT.due("7 more are too many", x.collect(-1, 7), -3);
        KIT.due("BAD goes before FULL", x.collect(-1, 9), -2);
        KIT.due("none came", x.count(0), 3994);
        KIT.due("6 more", x.collect(-1, 6), 4000);
        KIT.due("forget()", x.forget(), 4000);
        KIT.due("forget() again", x.forget(), 0);
    }

    private static void ticking() {
        DiskEvidence x = new DiskEvidence();
        KIT.due("tick(-1)", x.tick(-1), -2);
        KIT.due("tick(1000000001)", x.tick(1000000001), -2);
        KIT.due("tick(1000000000)", x.tick(1000000000), 1000000000);
        KIT.due("tick(999999999)", x.tick(999999999), 1999999999);
        KIT.due("tick(2) above the last", x.tick(2), -2);
        KIT.due("tick(1000000000) above the last", x.tick(1000000000), -2);
        KIT.due("tick(1)", x.tick(1), 2000000000);
        KIT.due("tick(0)", x.tick(0), 2000000000);
        KIT.due("count(9)", x.count(9), 2000000000);
    }

    private static void blanks() {
        DiskEvidence x = new DiskEvidence();
        KIT.due("blank(0)", x.blank(0), -2);
        KIT.due("blank(129)", x.blank(129), -2);
        for (int i = 0; i < 6; i++) KIT.due("blank " + i, x.blank(i == 0 ? 128 : i), i);
        KIT.due("a seventh", x.blank(1), -3);
        KIT.due("a bad seventh", x.blank(0), -2);
        Kit.text(x, "PX");
        KIT.due("a seventh that is packed", x.picture(), -3);
        KIT.due("FULL leaves COLLECTED", x.count(0), 2);
        KIT.due("sectors(0)", x.sectors(0), 128);
        KIT.due("sectors(5)", x.sectors(5), 5);
        KIT.due("sectors(6)", x.sectors(6), -2);
        KIT.due("sectors(-1)", x.sectors(-1), -2);
        KIT.due("the last byte", x.byteAt(0, 8191), 0);
    }

    private static void spoiling() {
        DiskEvidence x = new DiskEvidence();
        x.blank(2);
        KIT.due("poke", x.poke(0, 64, 200), 0);
        KIT.due("spoil(0, 2)", x.spoil(0, 2, true), -2);
        KIT.due("spoil(0, -1)", x.spoil(0, -1, true), -2);
        KIT.due("spoil(1, 0)", x.spoil(1, 0, true), -2);
        KIT.due("spoil(0, 1)", x.spoil(0, 1, true), 0);
        KIT.due("read as 0", x.byteAt(0, 64), 0);
        KIT.due("poke that is lost", x.poke(0, 64, 7), 0);
        KIT.due("poke that is lost, too", x.poke(0, 65, 7), 0);
        KIT.due("spoil again", x.spoil(0, 1, true), 1);
        KIT.due("not spoilt any more", x.spoil(0, 1, false), 1);
        KIT.due("its byte", x.byteAt(0, 64), 200);
        KIT.due("what was lost", x.byteAt(0, 65), 0);
    }

    private static void bytesAndCrc() {
        DiskEvidence x = new DiskEvidence();
        x.blank(2);
        KIT.due("byteAt(0, -1)", x.byteAt(0, -1), -2);
        KIT.due("byteAt(0, 128)", x.byteAt(0, 128), -2);
        KIT.due("byteAt(1, 0)", x.byteAt(1, 0), -2);
        KIT.due("poke(0, 128, 0)", x.poke(0, 128, 0), -2);
        KIT.due("poke(0, 0, 256)", x.poke(0, 0, 256), -2);
        KIT.due("poke(0, 0, -1)", x.poke(0, 0, -1), -2);
        Kit.write(x, 0, 60, Kit.raw("123456789"));
        KIT.due("crc of 123456789", x.crc(0, 60, 9), 0xCBF43926L);
        KIT.due("crc of none", x.crc(0, 128, 0), 0);
        KIT.due("crc of one beyond", x.crc(0, 128, 1), -2);
        KIT.due("crc from beyond", x.crc(0, 129, 0), -2);
        KIT.due("crc of -1", x.crc(0, 0, -1), -2);
        KIT.due("crc from -1", x.crc(0, -1, 1), -2);
        KIT.due("crc of very many", x.crc(0, 1, Integer.MAX_VALUE), -2);
        KIT.due("crc of all", x.crc(0, 0, 128), Kit.crc(Kit.raw(Kit.many('\0', 60) + "123456789" + Kit.many('\0', 59))));
        x.spoil(0, 1, true);
        KIT.due("crc as it is read", x.crc(0, 60, 9), Kit.crc(Kit.raw("1234\0\0\0\0\0")));
    }

    private static String sealed(String s) {
        return s + Formats.low(Kit.crc(Kit.raw(s)), 4);
    }

    private static int packed(String s) {
        DiskEvidence x = new DiskEvidence();
        Kit.text(x, s);
        int answer = x.picture();
        KIT.due("COLLECTED behind picture()", x.count(0), 0);
        KIT.due("PICTURES behind picture()", x.count(1), answer >= 0 ? 1 : 0);
        return answer;
    }

    private static void packed() {
        DiskEvidence x = new DiskEvidence();
        x.blank(1);
        String told = Kit.many('q', 63) + "\u00ff";
        Kit.text(x, sealed("PX\4\0\0\1" + told + "\2z\3"));
        KIT.due("picture()", x.picture(), 1);
        KIT.due("sectors(1)", x.sectors(1), 4);
        KIT.due("a 0 sector", x.crc(1, 0, 64), Kit.crc(new byte[64]));
        KIT.due("a told sector", x.crc(1, 64, 64), Kit.crc(Kit.raw(told)));
        KIT.due("a sector of one byte", x.crc(1, 128, 64), Kit.crc(Kit.raw(Kit.many('z', 64))));
        KIT.due("not spoilt", x.spoil(1, 2, false), 0);
        KIT.due("spoilt", x.spoil(1, 3, false), 1);
        KIT.due("a spoilt one's bytes", x.byteAt(1, 255), 0);
        KIT.due("128 sectors", packed(sealed("PX\u0080\0" + Kit.many('\0', 128))), 0);
    }

    private static void packedFaults() {
        KIT.due("none", packed(""), -100);
        KIT.due("no P", packed("QX"), -100);
        KIT.due("P alone", packed("P"), -101);
        KIT.due("no X", packed("PY"), -101);
        KIT.due("no count", packed("PX"), -102);
        KIT.due("half a count", packed("PX\u00ff"), -103);
        KIT.due("a count of 0", packed("PX\0\0\0"), -102);
        KIT.due("a count of 129", packed("PX\u0081\0\0"), -102);
        KIT.due("no sector", packed("PX\1\0"), -104);
        KIT.due("a sector of kind 4", packed("PX\1\0\4"), -104);
        KIT.due("a second of kind 255", packed("PX\2\0\2\2\u00ff"), -106);
        KIT.due("63 bytes", packed("PX\1\0\1" + Kit.many('a', 63)), -168);
        KIT.due("a byte that is missing", packed("PX\1\0\2"), -105);
        KIT.due("no CRC", packed("PX\1\0\3"), -105);
        KIT.due("three bytes of a CRC", packed("PX\1\0\3abc"), -108);
        KIT.due("a wrong CRC", packed("PX\1\0\3abcd"), -105);
        KIT.due("one byte more", packed(sealed("PX\1\0\3") + "!"), -109);
        KIT.due("a wrong CRC and a byte more", packed("PX\1\0\3abcde"), -105);
    }
}
