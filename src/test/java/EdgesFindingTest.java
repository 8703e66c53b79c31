/** Boundary cases of "7 FINDING" and of promises 38 to 40, each by the sentence that names it. */
public final class EdgesFindingTest {
    private static final Kit KIT = new Kit("EdgesFinding");
    private static final int MAX = Integer.MAX_VALUE, MIN = Integer.MIN_VALUE;

    public static void main(String[] args) {
        wordLengths();
        wordPlaces();
        wordsInFilesOfAllSorts();
        wordsInPlacesWithoutBlocks();
        wordsAsTheyWereMounted();
        hits200();
        hits200OfPatterns();
        wordsRefused();
        patternAtoms();
        patternSets();
        patternRanges();
        patternAnyByte();
        patternStars();
        patternLongest();
        patternNotEmpty();
        patternNextBehind();
        patternSixteen();
        patternEndsTooEarly();
        patternFaults();
        patternAnew();
        patternsInTheSameOrder();
        patternsRefused();
        hitNumbers();
        KIT.finish();
    }

    /** A TAPE of one file that is "f". */
    private static Desk with(String bytes) {
        return Desk.mounted(new Image(2 + (bytes.length() + 63) / 64).entry(0, "f", '0', bytes.length(), 0).text(64, bytes));
    }

    /** HITS of a WORD in FILE 0. */
    private static String word(String bytes, String word) {
        Desk x = with(bytes);
        x.worded(0, word);
        return inFile(x);
    }

    private static String inFile(Desk x) {
        StringBuilder s = new StringBuilder();
        for (int i = 0; x.hit(i, 0) == 0; i++) s.append(x.hit(i, 1)).append('+').append(x.hit(i, 2)).append(' ');
        return s.toString();
    }

    private static String pattern(String bytes, String pattern) {
        Desk x = with(bytes);
        int n = x.patterned(0, pattern);
        return n < 0 ? "" + n : inFile(x);
    }

    // ---- WORD

    private static void wordLengths() {
        KIT.says("WORD: COLLECTED bytes (1 .. 32)");
        Desk x = with(Kit.many('a', 33));
        KIT.due("none", x.word(0), -4);
        KIT.due("1", x.worded(0, "f"), 1);
        KIT.due("31", x.worded(0, Kit.many('a', 31)), 6);
        KIT.due("32", x.worded(0, Kit.many('a', 32)), 4);
        KIT.due("33", x.worded(0, Kit.many('a', 33)), -4);
        KIT.due("64", x.worded(0, Kit.many('a', 64)), -4);
        KIT.due("of the latest that was good", x.hits(), "0,0,32 0,1,32 -1,64,32 -1,65,32 ");
        KIT.due("any bytes", word("x\0\u00ff\0y", "\0\u00ff\0"), "1+3 ");
        KIT.due("of 0s", word("a\0\0b", "\0"), "1+1 2+1 ");
    }

    private static void wordPlaces() {
        KIT.says("each place where they stand");
        KIT.due("the first byte and the last", word("abcab", "ab"), "0+2 3+2 ");
        KIT.due("one in the other", word("aaaa", "aa"), "0+2 1+2 2+2 ");
        KIT.due("all of it", word("abc", "abc"), "0+3 ");
        KIT.due("one byte more", word("abc", "abcd"), "");
        KIT.due("from BLOCK to BLOCK", word(Kit.many('x', 62) + "abcd" + Kit.many('x', 62) + "abcd", "abcd"), "62+4 128+4 ");
        KIT.due("in a FILE without bytes", word("", "a"), "");
        KIT.says("each up to its end");
        Desk x = with("ab");
        KIT.due("a 0 behind the end", x.worded(0, "b\0"), 1);
        KIT.due("is the VOLUME'S", x.hits(), "-1,65,2 ");
        KIT.due("the VOLUME'S first byte", x.worded(0, "f\0") + x.hits(), "1-1,0,2 ");
        Desk y = Desk.mounted(new Image(3).b(190, 'q').b(191, 'z'));
        KIT.due("its last bytes", y.worded(0, "qz") + y.hits(), "1-1,190,2 ");
        KIT.due("beyond them", y.worded(0, "z\0"), 0);
        KIT.due("from BLOCK to BLOCK of it", Desk.mounted(new Image(3).text(126, "abcd")).worded(0, "abcd"), 1);
    }

    private static void wordsInFilesOfAllSorts() {
        KIT.says("in FILES of a TREE that are no folders, by their numbers (all but INSIDE ones), each up to its end, and then the VOLUME'S bytes as they were MOUNTED (FILE NONE)");
        String p = Formats.pack("key", "key");
        Image m = Image.cells(30, 1, 1, 1, 0).root(0, "D", 16, 2, 0).chain(2, 2).row(3 * 64, "key", 0, 3, 5).chain(3, 3).text(4 * 64, "1key5key").root(1, "\u00e5", 0, 4, 3).text(5 * 64, "key").text(6 * 64, p);
        Desk x = Desk.mounted(m);
        KIT.due("names", x.names(0), "D key ? @6 ");
        x.open(0, 3);
        KIT.due("INSIDE", x.inside(0, 3), 4);
        KIT.due("key", x.worded(0, "key"), 5 + 7);
        KIT.due("hits", x.hits(), "1,1,3 2,0,3 3,5,3 3,18,3 3,26,3 -1,192,3 -1,257,3 -1,261,3 -1,320,3 -1,389,3 -1,402,3 -1,410,3 ");
        KIT.due("of a pattern, too", x.patterned(0, "k.y"), 12);
        KIT.due("folders are none", x.hit(0, 0), 1);
        Desk y = Desk.mounted(new Image(4).entry(0, "a", '0', 1, 0).text(64, "k").entry(2, "a", '0', 1, 0).text(192, "k"));
        KIT.due("of a TAPE: the living one, the LOST one", y.worded(0, "k") + y.hits(), "40,0,1 1,0,1 -1,64,1 -1,192,1 ");
    }

    private static void wordsInPlacesWithoutBlocks() {
        KIT.says("a place whose BLOCK is none (below the DATA BLOCKS, n and more) has none (FAULT 2) and is 0s");
        Image m = Image.nodes(20, 4).named(5, 0, 2, "a").named(5, 1, 3, "b").node(2, 1, 192, 6, 7, 8).node(3, 1, 192, 9, 0, 10).fill(6 * 64, 5 * 64, 'x').takes(6, 7, 8, 9, 10);
        Desk x = Desk.mounted(m);
        KIT.due("x and 0", x.worded(0, "x\0"), 2);
        KIT.due("hits", x.hits(), "1,63,2 -1,703,2 ");
        KIT.due("x, 0s and x", x.patterned(0, "x\0\0*x"), 1);
        KIT.due("hit", x.hits(), "1,63,66 ");
    }

    private static void wordsAsTheyWereMounted() {
        KIT.says("and then the VOLUME'S bytes as they were MOUNTED (FILE NONE)");
        Desk x = with("abc");
        x.poke(0, 64, 'z');
        x.spoil(0, 1, true);
        KIT.due("a", x.worded(0, "abc") + x.hits(), "20,0,3 -1,64,3 ");
        KIT.due("z", x.worded(0, "z"), 0);
        Desk y = Desk.of(new Image(3).text(128, "word").spoil(2));
        y.mount(0);
        KIT.due("SPOILT when it was MOUNTED", y.worded(0, "word"), 0);
    }

    private static void hits200() {
        KIT.says("HITS (200 at most)");
        int[] sizes = {99, 100, 101, 199, 200, 201};
        for (int n : sizes) {
            Desk x = with(Kit.many('m', n));
            KIT.due("twice " + n, x.worded(0, "m"), Math.min(200, 2 * n));
            KIT.due("count(5)", x.count(5), Math.min(200, 2 * n));
            int last = Math.min(200, 2 * n) - 1;
            KIT.due("the last of twice " + n, x.hit(last, 0) + " " + x.hit(last, 1), last >= n ? "-1 " + (64 + last - n) : "0 " + last);
            KIT.due("behind it", x.hit(last + 1, 0), -2);
        }
    }

    private static void hits200OfPatterns() {
        KIT.says("HITS (200 at most)");
        int[] sizes = {100, 101, 200, 201};
        for (int n : sizes) {
            Desk x = with(Kit.many('m', n));
            KIT.due("twice " + n, x.patterned(0, "m"), Math.min(200, 2 * n));
            KIT.due("behind the last of twice " + n, x.hit(Math.min(200, 2 * n), 0), -2);
        }
    }

    private static void wordsRefused() {
        KIT.says("HITS of a WORD in a TREE: how many. BAD; COLLECTED are empty then: PATH: they are not 1 .. 32.");
        Desk x = with("abc");
        x.worded(0, "b");
        x.put("c");
        KIT.due("TREE 1", x.word(1), -2);
        KIT.due("TREE -1", x.word(-1), -2);
        KIT.due("the greatest TREE", x.word(MAX), -2);
        KIT.due("COLLECTED stay", x.count(0), 1);
        KIT.due("HITS stay", x.hits(), "0,1,1 -1,65,1 ");
        KIT.due("TREE 0", x.word(0), 2);
        KIT.due("COLLECTED are empty", x.count(0), 0);
        KIT.due("PATH", x.worded(0, Kit.many('a', 33)), -4);
        KIT.due("COLLECTED are empty, too", x.count(0), 0);
        KIT.due("HITS stay, too", x.hits(), "0,2,1 -1,66,1 ");
        KIT.due("none stands there", x.worded(0, "q"), 0);
        KIT.due("no HITS then", x.count(5), 0);
    }

    // ---- PATTERN

    private static void patternAtoms() {
        KIT.says("\\ and a byte: that; other bytes themselves (also ( | )), but * ? ].");
        String[] own = {"a", "(", "|", ")", "-", "^", "$", "+", "{", "}", "/", "'", "\0", "\u00ff", "&", "!"};
        for (String s : own) KIT.due("itself: " + s, pattern("x" + s + "y", s), "1+1 ");
        String[] escaped = {"*", "?", "]", "[", ".", "\\", "a", "\0", "\u00ff", "-"};
        for (String s : escaped) KIT.due("behind \\: " + s, pattern("x" + s + "y", "\\" + s), "1+1 ");
        KIT.due("\\ and a star", pattern("aa**", "\\**"), "2+2 ");
        KIT.due("\\ and a ?", pattern("a?", "a\\?"), "0+2 ");
        KIT.due("\\\\ and *", pattern("\\\\a", "\\\\*"), "0+2 ");
        String[] wrong = {"*", "?", "]"};
        for (String s : wrong) {
            KIT.due("at once: " + s, pattern("a", s), "-100");
            KIT.due("behind an ATOM and *: " + s, pattern("a", "a*" + s), "-102");
            KIT.due("behind an ATOM and ?: " + s, pattern("a", "a?" + s), "-102");
        }
        KIT.due("] behind an ATOM", pattern("a", "a]"), "-101");
    }

    private static void patternSets() {
        KIT.says("[, one byte or more that are no ] (two with - between: those from the one to the other, which is not less: else the fault is there; a - elsewhere is a byte), and ]");
        KIT.due("one", pattern("abc", "[b]"), "1+1 ");
        KIT.due("two", pattern("abc", "[ca]"), "0+1 2+1 ");
        KIT.due("none", pattern("abc", "[]"), "-101");
        KIT.due("none, and another ]", pattern("abc", "[]]"), "-101");
        KIT.due("no ^", pattern("a^b", "[^a]*"), "0+2 ");
        KIT.due("* ? . [ ( in it", pattern("b*?.[(a", "[*?.[(]*"), "1+5 ");
        KIT.due("\\ in it is a byte", pattern("a\\b", "[\\]"), "1+1 ");
        KIT.due("\\ in it guards no ]", pattern("\\]", "[\\]\\]"), "0+2 ");
        KIT.due("byte 0 and byte 255", pattern("a\0\u00ffb", "[\0\u00ff]*"), "1+2 ");
    }

    private static void patternRanges() {
        KIT.says("two with - between: those from the one to the other, which is not less: else the fault is there; a - elsewhere is a byte");
        KIT.due("[b-d]", pattern("abcde", "[b-d]*"), "1+3 ");
        KIT.due("[b-b]", pattern("abcde", "[b-b]*"), "1+1 ");
        KIT.due("[b-a]", pattern("a", "[b-a]"), "-103");
        KIT.due("[b-a, the fault is there", pattern("a", "[b-a"), "-103");
        KIT.due("[xb-a]", pattern("a", "[xb-a]"), "-104");
        KIT.due("[a-cb-a]", pattern("a", "[a-cb-a]"), "-106");
        KIT.due("[a-]", pattern("a-b", "[a-]*"), "0+2 ");
        KIT.due("[-a]", pattern("a-b", "[-a]*"), "0+2 ");
        KIT.due("[-]", pattern("a-b", "[-]"), "1+1 ");
        KIT.due("[--]", pattern("a-b", "[--]"), "1+1 ");
        KIT.due("[---]", pattern("a-b", "[---]"), "1+1 ");
        KIT.due("[a-c-e]: a to c, - and e", pattern("-abcde", "[a-c-e]*"), "0+4 5+1 ");
        KIT.due("[+--]: + to -", pattern("*+,-.", "[+--]*"), "1+3 ");
        KIT.due("[--/]: - to /", pattern(",-./0", "[--/]*"), "1+3 ");
        KIT.due("all bytes", pattern("a\0\u00ffb", "[\0-\u00ff]*"), "0+4 ");
        KIT.due("above 127", pattern("\u007f\u0080\u00fe\u00ff", "[\u0080-\u00fe]*"), "1+2 ");
        KIT.due("bytes are no ints below 0", pattern("a", "[\u0080-\u007f]"), "-103");
    }

    private static void patternAnyByte() {
        KIT.says(". any byte");
        KIT.due("0 and 255", pattern("\0\u00ff\n", "..."), "0+3 ");
        KIT.due("each", pattern("abc", "."), "0+1 1+1 2+1 ");
        KIT.due("not behind the end", pattern("abc", ".c."), "");
    }

    private static void patternStars() {
        KIT.says("each perhaps with * behind (any number, also none) or ? (one or none)");
        KIT.due("none of *", pattern("ac", "ab*c"), "0+2 ");
        KIT.due("one of *", pattern("abc", "ab*c"), "0+3 ");
        KIT.due("many of *", pattern("abbbbc", "ab*c"), "0+6 ");
        KIT.due("none of ?", pattern("ac", "ab?c"), "0+2 ");
        KIT.due("one of ?", pattern("abc", "ab?c"), "0+3 ");
        KIT.due("two of ?", pattern("abbc", "ab?c"), "");
        KIT.due("of a set", pattern("x121y", "x[12]*y"), "0+5 ");
        KIT.due("of .", pattern("x??y", "x.*y"), "0+4 ");
        KIT.due("of \\", pattern("x..y", "x\\.*y"), "0+4 ");
        KIT.due("two ?", pattern("aab", "a?a?b"), "0+3 ");
        KIT.due("two *", pattern("aabb", "a*b*"), "0+4 ");
        KIT.due("a star behind a star", pattern("a", "a**"), "-102");
        KIT.due("a ? behind a ?", pattern("a", "a??"), "-102");
    }

    private static void patternLongest() {
        KIT.says("in each from the left the longest match that begins there, if it is not empty; the next one is looked for behind it");
        KIT.due("over another end", pattern("abab", "a.*b"), "0+4 ");
        KIT.due("one that needs the shorter first ATOM", pattern("aab", "a*ab"), "0+3 ");
        KIT.due("one that leaves the first ATOM out", pattern("ab", "a?ab?"), "0+2 ");
        KIT.due("one whose longer way fails", pattern("abab", "ab?a?c*"), "0+3 ");
        KIT.due("up to the end", pattern("xaaa", "a*"), "1+3 ");
        KIT.due("from BLOCK to BLOCK", pattern(Kit.many('a', 150), "a*"), "0+150 ");
        KIT.due("the earlier, though a later one is longer", pattern("abbc", "ab|bbc"), "");
        KIT.due("begins at the left", pattern("aabbb", "ab*"), "0+1 1+4 ");
    }

    private static void patternNotEmpty() {
        KIT.says("if it is not empty");
        KIT.due("a* where none is", pattern("bcd", "a*"), "");
        KIT.due("a? and b?", pattern("cab", "a?b?"), "1+2 ");
        KIT.due("of no bytes", pattern("", "a*"), "");
        Desk x = with("");
        KIT.due("in the VOLUME, too", x.patterned(0, "q*"), 0);
    }

    private static void patternNextBehind() {
        KIT.says("the next one is looked for behind it");
        KIT.due("aa in aaaaa", pattern("aaaaa", "aa"), "0+2 2+2 ");
        KIT.due("right behind it", pattern("abab", "ab"), "0+2 2+2 ");
        KIT.due("aba in ababa", pattern("ababa", "aba"), "0+3 ");
        Desk x = with(Kit.many('q', 64));
        KIT.due("not over a FILE'S end", x.patterned(0, "q*") + x.hits(), "20,0,64 -1,64,64 ");
    }

    private static void patternSixteen() {
        KIT.says("16 ATOMS at most.");
        KIT.due("16", pattern(Kit.many('a', 17), Kit.many('a', 16)), "0+16 ");
        KIT.due("16 with stars", pattern("bbb", "a*b*a*b*a*b*a*b*a*b*a*b*a*b*a*b*"), "0+3 ");
        KIT.due("16 of ?", pattern(Kit.many('a', 17), Kit.many('a', 16).replace("a", "a?")), "0+16 16+1 ");
        KIT.due("16 sets", pattern(Kit.many('b', 16), Kit.many('a', 16).replace("a", "[a-c]")), "0+16 ");
        KIT.says("the place of the 17th ATOM");
        KIT.due("17", pattern("a", Kit.many('a', 17)), "-116");
        KIT.due("20", pattern("a", Kit.many('a', 20)), "-116");
        KIT.due("the 17th ends too early", pattern("a", Kit.many('a', 16) + "["), "-116");
        KIT.due("the 17th ends too early, too", pattern("a", Kit.many('a', 16) + "\\"), "-116");
        KIT.due("behind stars", pattern("a", "a*a*a*a*a*a*a*a*a*a*a*a*a*a*a*a*b"), "-132");
        KIT.due("behind sets", pattern("a", Kit.many('a', 16).replace("a", "[a]") + "b"), "-148");
        KIT.due("a fault before it", pattern("a", Kit.many('a', 15) + "]aaaa"), "-115");
    }

    private static void patternEndsTooEarly() {
        KIT.says("-100 less the place where it is none (its length, where it ends too early; 0 also without ATOMS, the place of the 17th ATOM)");
        KIT.due("nothing", pattern("a", ""), "-100");
        String[] cut = {"[", "[a", "[a-", "[a-b", "\\", "a\\", "ab[", "ab[c-d", "[-", "[\\", "a*[", "[[", "a?\\"};
        for (String s : cut) KIT.due("cut: " + s, pattern("a", s), "" + (-100 - s.length()));
        Desk x = with("ab");
        x.put("[a-b]]]]\\\\\\\\");
        x.forget();
        for (String s : cut) KIT.due("cut, where others were collected: " + s, x.patterned(0, s), -100 - s.length());
    }

    private static void patternFaults() {
        KIT.says("HITS of a PATTERN: how many. BAD; COLLECTED are empty then: -100 less the place where it is none");
        Desk x = with("abc");
        x.patterned(0, "b");
        String[] wrong = {"*", "a]", "[b-a]", "[", ""};
        for (String s : wrong) {
            KIT.due("none: " + s, x.patterned(0, s) < -99 ? 1 : 0, 1);
            KIT.due("COLLECTED", x.count(0), 0);
            KIT.due("HITS stay", x.hits(), "0,1,1 -1,65,1 ");
        }
    }

    private static void patternAnew() {
        KIT.says("HIT i of the latest word() or pattern() that was good");
        Desk x = with("uvwuvw");
        KIT.due("u*v?", x.patterned(0, "u*v?"), 4);
        KIT.due("w", x.patterned(0, "w") + inFile(x), "42+1 5+1 ");
        KIT.due("[vw]", x.patterned(0, "[vw]") + inFile(x), "81+1 2+1 4+1 5+1 ");
        KIT.due("a wrong one", x.patterned(0, "[u-w]*["), -107);
        KIT.due("uv", x.patterned(0, "uv") + inFile(x), "40+2 3+2 ");
        KIT.due("the word w", x.worded(0, "w") + inFile(x), "42+1 5+1 ");
        KIT.due("[x]", x.patterned(0, "[x]"), 0);
        KIT.due("u", x.patterned(0, "u"), 4);
        KIT.due("u?v*", x.patterned(0, "u?v*"), 4);
        KIT.due("uw: no ATOM of it may be left out", x.patterned(0, "uw"), 0);
        Desk z = with("u\0\u00ffv");
        KIT.due("[0 and 255]", z.patterned(0, "[\0\u00ff]") + inFile(z).substring(0, 8), z.count(5) + "1+1 2+1 ");
        KIT.due("u has no other bytes", z.patterned(0, "u") + inFile(z), "20+1 ");
        Desk y = with("wwx");
        y.put("w*************");
        y.forget();
        KIT.due("w, where w* was collected", y.patterned(0, "w") + inFile(y), "40+1 1+1 ");
        y.put("[w]***");
        y.forget();
        KIT.due("[w], where a star was", y.patterned(0, "[w]") + inFile(y), "40+1 1+1 ");
    }

    private static void patternsInTheSameOrder() {
        KIT.says("HITS of a PATTERN, in the same order");
        Desk x = Desk.mounted(new Image(8).entry(0, "b", '0', 1, 0).text(64, "k1").entry(2, "a", '0', 2, 0).text(192, "k2").entry(4, "b", '0', 2, 0).text(320, "k3"));
        KIT.due("k. in a, b, the LOST b, the VOLUME", x.patterned(0, "k.") + x.hits(), "50,0,2 1,0,2 -1,64,2 -1,192,2 -1,320,2 ");
        KIT.due("each up to its end", x.patterned(0, "k.?") + x.hits(), "60,0,2 1,0,2 2,0,1 -1,64,2 -1,192,2 -1,320,2 ");
    }

    private static void patternsRefused() {
        KIT.says("BAD goes first in all calls");
        Desk x = with("abc");
        x.put("*");
        KIT.due("TREE 1", x.pattern(1), -2);
        KIT.due("TREE -1", x.pattern(-1), -2);
        KIT.due("COLLECTED stay", x.count(0), 1);
        KIT.due("TREE 0", x.pattern(0), -100);
        KIT.due("COLLECTED are empty", x.count(0), 0);
    }

    private static void hitNumbers() {
        KIT.says("what = 0 the FILE (NONE: the VOLUME), 1 the place, 2 how many bytes. BAD.");
        Desk x = with("abc");
        KIT.due("before any", x.hit(0, 0), -2);
        x.worded(0, "bc");
        KIT.due("both", x.hits(), "0,1,2 -1,65,2 ");
        KIT.due("HIT 2", x.hit(2, 0), -2);
        KIT.due("HIT -1", x.hit(-1, 0), -2);
        KIT.due("the greatest HIT", x.hit(MAX, 0), -2);
        KIT.due("the least HIT", x.hit(MIN, 0), -2);
        KIT.due("what = -1", x.hit(1, -1), -2);
        KIT.due("what = 3", x.hit(0, 3), -2);
    }
}
