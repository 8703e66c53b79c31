/** Boundary cases of "1 PICTURES" and of promises 1 to 11, each by the sentence that names it. */
public final class EdgesPicturesTest {
    private static final Kit KIT = new Kit("EdgesPictures");
    private static final int MAX = Integer.MAX_VALUE, MIN = Integer.MIN_VALUE;

    public static void main(String[] args) {
        aNewObjectHasNothing();
        collectTakesOneToEight();
        collectTakesTheLowestBytes();
        collectedAreUpTo4000();
        forgetEmpties();
        tickGoesFrom0To1000000000();
        nowIsAtMost2000000000();
        sectorsAre1To128();
        picturesAre6();
        packedCounts();
        packedSectors();
        packedThatEndsTooEarly();
        packedCrc();
        packedAndNothingMore();
        packedWhenFull();
        packedAt4000Bytes();
        sectorsOfNoPicture();
        spoilFirstAndLast();
        spoiltBytesAreRead0();
        byteAtFirstAndLast();
        pokeBytes();
        crcBounds();
        crcValues();
        KIT.finish();
    }

    private static void aNewObjectHasNothing() {
        KIT.says("Nothing collected, no PICTURES.");
        Desk x = new Desk();
        for (int what = 0; what <= 9; what++) KIT.due("count " + what, x.count(what), 0);
        KIT.due("sectors(0)", x.sectors(0), -2);
        KIT.due("blocks(0)", x.blocks(0), -2);
        KIT.due("mount(0)", x.mount(0), -2);
        KIT.due("forget()", x.forget(), 0);
        KIT.due("line()", x.line(), 0);
        KIT.due("doubts()", x.doubts(), 0);
        KIT.due("chain()", x.chain(), -1);
        KIT.due("link(0)", x.link(0), 0);
        KIT.due("hit(0, 0)", x.hit(0, 0), -2);
        KIT.due("row(0)", x.row(0), -2);
    }

    private static void collectTakesOneToEight() {
        KIT.says("Of w the lowest n (1 .. 8) bytes, the lowest first, come to COLLECTED: how many it has. BAD; FULL (then none comes).");
        Desk x = new Desk();
        KIT.due("n = 0", x.collect(-1, 0), -2);
        KIT.due("n = -1", x.collect(-1, -1), -2);
        KIT.due("n = 9", x.collect(-1, 9), -2);
        KIT.due("the greatest n", x.collect(-1, MAX), -2);
        KIT.due("the least n", x.collect(-1, MIN), -2);
        KIT.due("none came", x.count(0), 0);
        int has = 0;
        for (int n = 1; n <= 8; n++) {
            has += n;
            KIT.due("n = " + n, x.collect(Long.MIN_VALUE, n), has);
        }
        KIT.due("count(0)", x.count(0), 36);
    }

    private static void collectTakesTheLowestBytes() {
        KIT.says("Of w the lowest n (1 .. 8) bytes, the lowest first, come to COLLECTED");
        String packed = new Image(1).text(0, "\u00ff\u0080\u007f\1").packed();
        for (int n = 1; n <= 8; n++) {
            Desk x = new Desk();
            for (int i = 0; i < packed.length(); i += n) {
                int k = Math.min(n, packed.length() - i);
                long w = k == 8 ? 0 : 0x8081828384858687L << 8 * k;
                for (int d = 0; d < k; d++) w |= (packed.charAt(i + d) & 255L) << 8 * d;
                x.collect(w, k);
            }
            KIT.due("picture() of pieces of " + n, x.picture(), 0);
            KIT.due("the first byte", x.byteAt(0, 0), 255);
            KIT.due("the second byte", x.byteAt(0, 1), 128);
        }
    }

    private static void collectedAreUpTo4000() {
        KIT.says("COLLECTED are up to 4000 bytes.");
        Desk x = new Desk();
        for (int i = 0; i < 499; i++) x.collect(0, 8);
        KIT.due("3999", x.collect(0, 7), 3999);
        KIT.due("4001", x.collect(0, 2), -3);
        KIT.due("none came", x.count(0), 3999);
        KIT.due("4000", x.collect(0, 1), 4000);
        KIT.due("one more", x.collect(0, 1), -3);
        KIT.due("eight more", x.collect(0, 8), -3);
        KIT.says("BAD goes first in all calls");
        KIT.due("nine more", x.collect(0, 9), -2);
        KIT.due("none more", x.collect(0, 0), -2);
        KIT.due("COLLECTED are", x.count(0), 4000);
    }

    private static void forgetEmpties() {
        KIT.says("COLLECTED is empty: how many it had.");
        Desk x = new Desk();
        KIT.due("of none", x.forget(), 0);
        x.collect(7, 1);
        KIT.due("of one", x.forget(), 1);
        KIT.due("count(0)", x.count(0), 0);
        KIT.due("again", x.forget(), 0);
        for (int i = 0; i < 500; i++) x.collect(0, 8);
        KIT.due("of 4000", x.forget(), 4000);
        KIT.due("from the beginning again", x.collect(0, 1), 1);
    }

    private static void tickGoesFrom0To1000000000() {
        KIT.says("NOW is so many seconds (0 .. 1000000000) more: NOW.");
        Desk x = new Desk();
        KIT.due("0 at first", x.tick(0), 0);
        KIT.due("-1", x.tick(-1), -2);
        KIT.due("1000000001", x.tick(1000000001), -2);
        KIT.due("the greatest int", x.tick(MAX), -2);
        KIT.due("the least int", x.tick(MIN), -2);
        KIT.due("NOW stays", x.count(9), 0);
        KIT.due("1", x.tick(1), 1);
        KIT.due("1000000000", x.tick(1000000000), 1000000001);
    }

    private static void nowIsAtMost2000000000() {
        KIT.says("BAD, also if it would be above 2000000000.");
        Desk x = new Desk();
        x.tick(1000000000);
        x.tick(999999999);
        KIT.due("to 2000000001", x.tick(2), -2);
        KIT.due("far above, where an int wraps around", x.tick(1000000000), -2);
        KIT.due("NOW stays", x.count(9), 1999999999);
        KIT.due("to 2000000000", x.tick(1), 2000000000);
        KIT.due("0 more", x.tick(0), 2000000000);
        KIT.due("1 more", x.tick(1), -2);
    }

    private static void sectorsAre1To128() {
        KIT.says("PICTURES, 6 at most, have SECTORS of 64 bytes, 1 .. 128, numbered from 0 on.");
        Desk x = new Desk();
        KIT.due("0", x.blank(0), -2);
        KIT.due("-1", x.blank(-1), -2);
        KIT.due("129", x.blank(129), -2);
        KIT.due("the greatest int", x.blank(MAX), -2);
        KIT.due("the least int", x.blank(MIN), -2);
        KIT.due("no PICTURE came", x.count(1), 0);
        KIT.due("1", x.blank(1), 0);
        KIT.due("128", x.blank(128), 1);
        KIT.due("sectors(0)", x.sectors(0), 1);
        KIT.due("sectors(1)", x.sectors(1), 128);
        KIT.due("the last byte of 1", x.byteAt(0, 63), 0);
        KIT.due("behind it", x.byteAt(0, 64), -2);
        KIT.due("the last byte of 128", x.byteAt(1, 8191), 0);
        KIT.due("behind that", x.byteAt(1, 8192), -2);
        KIT.says("A PICTURE of so many SECTORS, all 0: its number. BAD; FULL.");
        KIT.due("all 0", x.crc(1, 0, 8192), Kit.crc(new byte[8192]));
        KIT.due("none is spoilt", x.spoil(1, 127, false), 0);
    }

    private static void picturesAre6() {
        KIT.says("PICTURES, 6 at most");
        Desk x = new Desk();
        for (int i = 0; i < 6; i++) KIT.due("PICTURE " + i, x.blank(i + 1), i);
        KIT.due("a seventh", x.blank(1), -3);
        KIT.due("count(1)", x.count(1), 6);
        KIT.due("sectors(5)", x.sectors(5), 6);
        KIT.due("sectors(6)", x.sectors(6), -2);
        KIT.due("byteAt(6, 0)", x.byteAt(6, 0), -2);
        KIT.due("volume(6, 0, 1)", x.volume(6, 0, 1), -2);
        KIT.says("BAD goes first in all calls");
        KIT.due("a seventh of none", x.blank(0), -2);
        KIT.due("a seventh of 129", x.blank(129), -2);
    }

    private static String sealed(String s) {
        return s + Formats.low(Kit.crc(Kit.raw(s)), 4);
    }

    /** What picture() answers, of a desk that had other bytes collected before. */
    private static int packed(String s) {
        Desk x = new Desk();
        x.put(sealed("PX\1\0\0") + Kit.many('\3', 40));
        x.forget();
        x.put(s);
        int answer = x.picture();
        KIT.due("COLLECTED behind picture()", x.count(0), 0);
        KIT.due("PICTURES behind picture()", x.count(1), answer == 0 ? 1 : 0);
        return answer;
    }

    private static void packedCounts() {
        KIT.says("'P', 'X', how many SECTORS (two bytes, 1 .. 128)");
        KIT.due("1", packed(sealed("PX\1\0\0")), 0);
        KIT.due("128", packed(sealed("PX\u0080\0" + Kit.many('\0', 128))), 0);
        KIT.due("0", packed(sealed("PX\0\0")), -102);
        KIT.due("129", packed(sealed("PX\u0081\0" + Kit.many('\0', 129))), -102);
        KIT.due("256", packed(sealed("PX\0\1" + Kit.many('\0', 256))), -102);
        KIT.due("257", packed(sealed("PX\1\1\0")), -102);
        KIT.due("65535", packed("PX\u00ff\u00ff"), -102);
        KIT.says("-100 less the place of the first byte (of a number its first; of a CRC likewise; where it ends too early its end) that is not as told.");
        KIT.due("no P", packed("pX\1\0"), -100);
        KIT.due("no X", packed("Px\1\0"), -101);
    }

    private static void packedSectors() {
        KIT.says("for each: 0 (all 0), or 1 and its 64 bytes, or 2 and a byte (all are that), or 3 (SPOILT)");
        KIT.due("4", packed(sealed("PX\1\0\4")), -104);
        KIT.due("255", packed(sealed("PX\1\0\u00ff")), -104);
        KIT.due("a last one of 4", packed(sealed("PX\3\0\0\3\4")), -106);
        KIT.due("behind a told one", packed("PX\2\0\1" + Kit.many('\3', 64) + "\5"), -169);
        KIT.due("behind one of a byte", packed("PX\2\0\2\1\6"), -106);
        Desk x = new Desk();
        x.put(sealed("PX\5\0\0\1" + "\1" + Kit.many('m', 62) + "\u00ff" + "\2\u00fe\3\2\0"));
        KIT.due("all kinds", x.picture(), 0);
        KIT.due("sectors(0)", x.sectors(0), 5);
        KIT.due("SECTOR 0's last byte", x.byteAt(0, 63), 0);
        KIT.due("SECTOR 1's first byte", x.byteAt(0, 64), 1);
        KIT.due("SECTOR 1's last byte", x.byteAt(0, 127), 255);
        KIT.due("SECTOR 2's first byte", x.byteAt(0, 128), 254);
        KIT.due("SECTOR 2's last byte", x.byteAt(0, 191), 254);
        KIT.due("SECTOR 3 is SPOILT", x.spoil(0, 3, false), 1);
        KIT.due("SECTOR 3's bytes", x.crc(0, 192, 64), Kit.crc(new byte[64]));
        KIT.due("SECTOR 4 of 0s", x.crc(0, 256, 64), Kit.crc(new byte[64]));
        KIT.due("no other is SPOILT", x.spoil(0, 0, false) + x.spoil(0, 1, false) + x.spoil(0, 2, false) + x.spoil(0, 4, false), 0);
    }

    private static void packedThatEndsTooEarly() {
        KIT.says("where it ends too early its end");
        String whole = sealed("PX\3\0\0\2z\1" + Kit.many('w', 64));
        for (int n = 0; n < whole.length(); n++) {
            if (n > 12 && n < 68) continue;
            KIT.due("the first " + n + " bytes", packed(whole.substring(0, n)), -100 - n);
        }
        KIT.due("all of it", packed(whole), 0);
        for (int n = 0; n < 12; n++) {
            Desk x = new Desk();
            x.put(Kit.many('\u00ff', 40));
            x.forget();
            x.put(whole.substring(0, n));
            KIT.due("the first " + n + " bytes, where others were", x.picture(), -100 - n);
        }
    }

    private static void packedCrc() {
        KIT.says("then the CRC of all before (four bytes), and nothing more.");
        String s = "PX\1\0\3";
        String good = sealed(s);
        for (int i = 5; i < 9; i++) {
            StringBuilder wrong = new StringBuilder(good);
            wrong.setCharAt(i, (char) (good.charAt(i) ^ 128));
            KIT.due("byte " + i + " is wrong", packed(wrong.toString()), -105);
        }
        KIT.due("a CRC of other bytes", packed("PX\1\0\0" + good.substring(5)), -105);
        KIT.due("the highest byte first", packed(s + new StringBuilder(good.substring(5)).reverse()), -105);
    }

    private static void packedAndNothingMore() {
        KIT.says("then the CRC of all before (four bytes), and nothing more.");
        String good = sealed("PX\1\0\0");
        KIT.due("a byte more", packed(good + "\0"), -109);
        KIT.due("many more", packed(good + good), -109);
        KIT.due("a wrong CRC comes before what is more", packed("PX\1\0\0" + "....\0"), -105);
    }

    private static void packedWhenFull() {
        KIT.says("FULL before that. COLLECTED are empty then, but with FULL.");
        Desk x = new Desk();
        for (int i = 0; i < 5; i++) x.blank(1);
        x.put("no picture");
        KIT.due("none", x.picture(), -100);
        KIT.due("COLLECTED", x.count(0), 0);
        x.put(sealed("PX\1\0\2a"));
        KIT.due("the sixth", x.picture(), 5);
        KIT.due("COLLECTED, too", x.count(0), 0);
        x.put("no picture");
        KIT.due("FULL before what is not as told", x.picture(), -3);
        KIT.due("COLLECTED stay", x.forget(), 10);
        KIT.due("FULL before nothing COLLECTED", x.picture(), -3);
        KIT.due("PICTURES", x.count(1), 6);
        KIT.due("the sixth is as it was", x.byteAt(5, 63), 'a');
    }

    private static void packedAt4000Bytes() {
        KIT.says("COLLECTED are up to 4000 bytes.");
        StringBuilder s = new StringBuilder("PX\u0080\0");
        for (int i = 0; i < 60; i++) s.append('\1').append(Kit.many((char) i, 64));
        for (int i = 60; i < 84; i++) s.append('\2').append((char) i);
        for (int i = 84; i < 128; i++) s.append('\0');
        Desk x = new Desk();
        x.put(sealed(s.toString()));
        KIT.due("their number", x.count(0), 4 + 3900 + 48 + 44 + 4);
        KIT.due("a picture of 4000 bytes", x.picture(), 0);
        KIT.due("SECTOR 59", x.byteAt(0, 59 * 64 + 63), 59);
        KIT.due("SECTOR 83", x.byteAt(0, 83 * 64), 83);
        KIT.due("SECTOR 84", x.byteAt(0, 84 * 64), 0);
    }

    private static void sectorsOfNoPicture() {
        KIT.says("How many SECTORS a PICTURE has. BAD.");
        Desk x = new Desk();
        KIT.due("of no PICTURE", x.sectors(0), -2);
        x.blank(7);
        KIT.due("0", x.sectors(0), 7);
        KIT.due("1", x.sectors(1), -2);
        KIT.due("-1", x.sectors(-1), -2);
        KIT.due("the greatest int", x.sectors(MAX), -2);
        KIT.due("the least int", x.sectors(MIN), -2);
    }

    private static void spoilFirstAndLast() {
        KIT.says("A SECTOR is SPOILT, or not any more: whether it was (1 or 0). BAD.");
        Desk x = new Desk();
        x.blank(3);
        KIT.due("-1", x.spoil(0, -1, true), -2);
        KIT.due("3", x.spoil(0, 3, true), -2);
        KIT.due("the greatest int", x.spoil(0, MAX, true), -2);
        KIT.due("PICTURE 1", x.spoil(1, 0, true), -2);
        KIT.due("PICTURE -1", x.spoil(-1, 0, true), -2);
        KIT.due("not any more, it was none", x.spoil(0, 0, false), 0);
        KIT.due("the first", x.spoil(0, 0, true), 0);
        KIT.due("the last", x.spoil(0, 2, true), 0);
        KIT.due("the first again", x.spoil(0, 0, true), 1);
        KIT.due("the middle is none", x.spoil(0, 1, false), 0);
        KIT.due("the last, not any more", x.spoil(0, 2, false), 1);
        KIT.due("the last again", x.spoil(0, 2, false), 0);
    }

    private static void spoiltBytesAreRead0() {
        KIT.says("A SECTOR may be SPOILT: its bytes are read as 0 then (what is written to it is lost).");
        Desk x = Desk.of(new Image(3).fill(0, 192, 9));
        x.spoil(0, 1, true);
        KIT.due("before its first", x.byteAt(0, 63), 9);
        KIT.due("its first", x.byteAt(0, 64), 0);
        KIT.due("its last", x.byteAt(0, 127), 0);
        KIT.due("behind its last", x.byteAt(0, 128), 9);
        KIT.due("by the VOLUME", x.volumeByte(0, 64), 0);
        KIT.due("by the CRC", x.crc(0, 64, 64), Kit.crc(new byte[64]));
        KIT.due("what was read before", x.poke(0, 64, 5), 0);
        KIT.due("poke again", x.poke(0, 64, 6), 0);
        x.spoil(0, 1, false);
        KIT.due("what was written is lost", x.byteAt(0, 64), 9);
        KIT.due("its last again", x.byteAt(0, 127), 9);
    }

    private static void byteAtFirstAndLast() {
        KIT.says("A byte as it is read. BAD.");
        Desk x = Desk.of(new Image(2).b(0, 255).b(127, 128));
        KIT.due("-1", x.byteAt(0, -1), -2);
        KIT.due("0", x.byteAt(0, 0), 255);
        KIT.due("127", x.byteAt(0, 127), 128);
        KIT.due("128", x.byteAt(0, 128), -2);
        KIT.due("the greatest int", x.byteAt(0, MAX), -2);
        KIT.due("the least int", x.byteAt(0, MIN), -2);
        KIT.due("PICTURE 1", x.byteAt(1, 0), -2);
        KIT.due("PICTURE -1", x.byteAt(-1, 0), -2);
    }

    private static void pokeBytes() {
        KIT.says("A byte is written: what was read there before. BAD.");
        Desk x = Desk.of(new Image(2).b(0, 255).b(127, 128));
        KIT.due("the first", x.poke(0, 0, 0), 255);
        KIT.due("it again", x.poke(0, 0, 255), 0);
        KIT.due("the last", x.poke(0, 127, 1), 128);
        KIT.due("the last again", x.byteAt(0, 127), 1);
        KIT.due("-1", x.poke(0, -1, 0), -2);
        KIT.due("128", x.poke(0, 128, 0), -2);
        KIT.due("PICTURE 1", x.poke(1, 0, 0), -2);
        KIT.due("PICTURE -1", x.poke(-1, 0, 0), -2);
        KIT.due("no byte: -1", x.poke(0, 0, -1), -2);
        KIT.due("no byte: 256", x.poke(0, 0, 256), -2);
        KIT.due("nothing is done then", x.byteAt(0, 0), 255);
    }

    private static void crcBounds() {
        KIT.says("The CRC (0 .. 2 to the 32nd less 1) of n bytes from one on (of none from the end on, too), as they are read. BAD: they are not all there.");
        Desk x = Desk.of(new Image(1).b(63, 'e'));
        KIT.due("of none", x.crc(0, 0, 0), 0);
        KIT.due("of none from the last on", x.crc(0, 63, 0), 0);
        KIT.due("of none from the end on", x.crc(0, 64, 0), 0);
        KIT.due("of none behind the end", x.crc(0, 65, 0), -2);
        KIT.due("of one from the end on", x.crc(0, 64, 1), -2);
        KIT.due("of the last", x.crc(0, 63, 1), Kit.crc(Kit.raw("e")));
        KIT.due("of two from the last on", x.crc(0, 63, 2), -2);
        KIT.due("of all", x.crc(0, 0, 64), Kit.crc(Kit.raw(Kit.many('\0', 63) + "e")));
        KIT.due("of one more", x.crc(0, 0, 65), -2);
        KIT.due("from -1", x.crc(0, -1, 1), -2);
        KIT.due("of -1", x.crc(0, 1, -1), -2);
        KIT.due("where an int wraps around", x.crc(0, 1, MAX), -2);
        KIT.due("and both wrap around", x.crc(0, MAX, MAX), -2);
        KIT.due("from the least int", x.crc(0, MIN, 0), -2);
        KIT.due("of the least int", x.crc(0, 0, MIN), -2);
        KIT.due("PICTURE 1", x.crc(1, 0, 0), -2);
        KIT.due("PICTURE -1", x.crc(-1, 0, 0), -2);
    }

    private static void crcValues() {
        KIT.says("CRC of bytes: c is -1; for each byte b: c becomes c xor b, then eight times c >>> 1, xor 0xEDB88320 if c was odd; at last ~c.");
        Desk x = Desk.of(new Image(1).text(0, "\u00ff\u00ff\u00ff\u00ff").text(8, "123456789"));
        KIT.due("its greatest", x.crc(0, 0, 4), 0xFFFFFFFFL);
        KIT.due("of 123456789", x.crc(0, 8, 9), 0xCBF43926L);
        KIT.due("of one 0", x.crc(0, 4, 1), 0xD202EF8DL);
        KIT.due("of one 255", x.crc(0, 0, 1), 0xFF000000L);
    }
}
