/** Promises 38 to 42: words, patterns and questions. */
public final class FindingTest {
    private static final Kit KIT = new Kit("Finding");

    public static void main(String[] args) {
        words();
        whereWordsAreLookedFor();
        manyHits();
        patterns();
        patternFaults();
        latestHits();
        questions();
        missingFields();
        orders();
        questionFaults();
        nests();
        latestRows();
        KIT.finish();
    }

    /** A TAPE of one file, "f", whose bytes are told; block 1 of six. */
    private static DiskEvidence with(String bytes) {
        DiskEvidence x = Kit.disk(6);
        x.format(0, 3, 0);
        Kit.save(x, 0, "f", bytes);
        x.mount(0);
        return x;
    }

    private static void words() {
        DiskEvidence x = with("aaa-needle-aa");
        KIT.due("word(1)", x.word(1), -2);
        KIT.due("hit(0, 0)", x.hit(0, 0), -2);
        KIT.due("no word", x.word(0), -4);
        KIT.due("33 bytes", Kit.word(x, 0, Kit.many('a', 33)), -4);
        KIT.due("COLLECTED", x.count(0), 0);
        KIT.due("32 bytes", Kit.word(x, 0, Kit.many('a', 32)), 0);
        KIT.due("needle", Kit.word(x, 0, "needle"), 2);
        KIT.due("its hits", Kit.hits(x), "0,4,6 -1,68,6 ");
        KIT.due("aa", Kit.word(x, 0, "aa"), 6);
        KIT.due("each place", Kit.hits(x), "0,0,2 0,1,2 0,11,2 -1,64,2 -1,65,2 -1,75,2 ");
        KIT.due("up to the end", Kit.word(x, 0, "aa\0"), 1);
        KIT.due("in the volume alone", Kit.hits(x), "-1,75,3 ");
        KIT.due("count(5)", x.count(5), 1);
        KIT.due("hit(1, 0)", x.hit(1, 0), -2);
        KIT.due("hit(-1, 0)", x.hit(-1, 0), -2);
        KIT.due("hit(0, 3)", x.hit(0, 3), -2);
        Kit.text(x, "q");
        KIT.due("a bad tree", x.word(-1), -2);
        KIT.due("leaves COLLECTED", x.forget(), 1);
    }

    private static void whereWordsAreLookedFor() {
        DiskEvidence x = Kit.disk(30);
        x.format(0, 2, 4);
        x.tick(5);
        Kit.folder(x, 0, "keyd");
        Kit.save(x, 0, "keyd/a", Formats.pack("key", "key"));
        Kit.save(x, 0, "b", "the key");
        Kit.erase(x, 0, "b");
        x.mount(0);
        x.open(0, 1);
        x.inside(0, 3);
        KIT.due("names", Kit.names(x, 0), "keyd a #4 key ");
        KIT.due("key", Kit.word(x, 0, "key"), 9);
        KIT.due("no folders, no inside ones", Kit.hits(x), "1,5,3 1,18,3 1,26,3 2,4,3 -1,450,3 -1,581,3 -1,594,3 -1,602,3 -1,644,3 ");
        Kit.save(x, 0, "c", "key");
        KIT.due("as it was mounted", Kit.word(x, 0, "key"), 9);
    }

    private static void manyHits() {
        DiskEvidence x = with(Kit.many('m', 150));
        KIT.due("200 at most", Kit.word(x, 0, "m"), 200);
        KIT.due("the last", x.hit(199, 0) + " " + x.hit(199, 1), "-1 113");
        KIT.due("of a pattern, too", Kit.pattern(x, 0, "m?"), 200);
    }

    private static String matches(String bytes, String pattern) {
        DiskEvidence x = with(bytes);
        int n = Kit.pattern(x, 0, pattern);
        StringBuilder s = new StringBuilder();
        for (int i = 0; i < n && x.hit(i, 0) == 0; i++) s.append(x.hit(i, 1)).append('+').append(x.hit(i, 2)).append(' ');
        return n < 0 ? "" + n : s.toString();
    }

    private static void patterns() {
        KIT.due("ab", matches("abcabab", "ab"), "0+2 3+2 5+2 ");
        KIT.due("a.", matches("abcaaaa", "a."), "0+2 3+2 5+2 ");
        KIT.due("a*", matches("aabacaaa", "a*"), "0+2 3+1 5+3 ");
        KIT.due("ab?c*", matches("abccacab", "ab?c*"), "0+4 4+2 6+2 ");
        KIT.due("the longest", matches("aXbXb", "a.*b"), "0+5 ");
        KIT.due("the longest by the first", matches("aab", "a?a*b?"), "0+3 ");
        KIT.due("one byte", matches("abc", "."), "0+1 1+1 2+1 ");
        KIT.due("[a-c]*", matches("abcdab-", "[a-c]*"), "0+3 4+2 ");
        KIT.due("[a-]", matches("a-b", "[a-]*"), "0+2 ");
        KIT.due("[-a]", matches("a-b", "[-a]*"), "0+2 ");
        KIT.due("[a-c-e]", matches("-ebxd", "[a-c-e]*"), "0+3 ");
        KIT.due("[--0]", matches("./-0,", "[--0]*"), "0+4 ");
        KIT.due("[^a]", matches("^ab", "[^a]*"), "0+2 ");
        KIT.due("[.*?[(]", matches("*?.[x", "[.*?[]*"), "0+4 ");
        KIT.due("[\\]", matches("a\\b", "[\\]"), "1+1 ");
        KIT.due("\\.", matches("a.b", "\\."), "1+1 ");
        KIT.due("\\*?", matches("a**", "a\\*?"), "0+2 ");
        KIT.due("(|)", matches("a(|)", "(|)"), "1+3 ");
        KIT.due("a byte above 127", matches("a\u00ff\u00fe", "[\u00fe-\u00ff]*"), "1+2 ");
        KIT.due("16 atoms", matches(Kit.many('a', 20), "a*a*a*a*a*a*a*a*a*a*a*a*a*a*a*a"), "0+20 ");
        KIT.due("16 atoms of one", matches(Kit.many('a', 20), Kit.many('a', 16)), "0+16 ");
        KIT.due("none is empty", matches("xyz", "a*b?"), "");
    }

    private static void patternFaults() {
        String[] wrong = {"", "*", "?a", "a]", "a**", "a*?", "[", "[a", "[a-", "[]", "[]a]", "a[c-a]", "\\", "ab\\", "[a-b", Kit.many('a', 17), Kit.many('a', 16) + "]", Kit.many('a', 16) + "**", "[ab*"};
        int[] at = {0, 0, 0, 1, 2, 2, 1, 2, 3, 1, 1, 4, 1, 3, 4, 16, 16, 17, 4};
        for (int i = 0; i < wrong.length; i++) {
            DiskEvidence x = with("a");
            KIT.due("pattern " + wrong[i], Kit.pattern(x, 0, wrong[i]), -100 - at[i]);
            KIT.due("COLLECTED", x.count(0), 0);
        }
    }

    private static void latestHits() {
        DiskEvidence x = with("abc");
        Kit.word(x, 0, "b");
        Kit.pattern(x, 0, "*");
        Kit.word(x, 0, "");
        KIT.due("of the latest that was good", Kit.hits(x), "0,1,1 -1,65,1 ");
        KIT.due("pattern(1)", x.pattern(1), -2);
        Kit.pattern(x, 0, "q");
        KIT.due("none", x.count(5), 0);
    }

    private static DiskEvidence asked;

    private static String rows(String question) {
        int n = Kit.question(asked, 0, question);
        return n < 0 ? "" + n : Kit.rows(asked);
    }

    /** CELLS: 0 A (100 bytes), 1 D (folder), 2 D/AB.X (10 bytes), 3 E (no bytes), 4 ? (65 bytes, lost). */
    private static void prepare() {
        asked = Kit.disk(30);
        asked.format(0, 1, 48 * 8 + 6);
        asked.tick(100);
        Kit.save(asked, 0, "A", Kit.many('a', 100));
        Kit.folder(asked, 0, "D");
        asked.tick(100);
        Kit.save(asked, 0, "D/AB.X", Kit.many('b', 10));
        Kit.save(asked, 0, "E", "");
        Kit.save(asked, 0, "F", Kit.many('f', 65));
        asked.tick(100);
        Kit.save(asked, 0, "A", Kit.many('a', 100));
        Kit.erase(asked, 0, "F");
        Kit.poke4(asked, 0, 128 + 2 * 32 + 14, 0);
        asked.mount(0);
        KIT.due("names", Kit.names(asked, 0), "A D AB.X E ? ");
    }

    private static void questions() {
        prepare();
        KIT.due("kind=2", rows("kind=2"), "1 ");
        KIT.due("size>64", rows("size>64"), "0 4 ");
        KIT.due("size<64", rows("size<64"), "2 3 ");
        KIT.due("size#100", rows("size#100"), "1 2 3 4 ");
        KIT.due("grade=5", rows("grade=5"), "0 1 2 3 ");
        KIT.due("made=100", rows("made=100"), "0 1 ");
        KIT.due("altered>199", rows("altered>199"), "0 2 3 4 ");
        KIT.due("block=6", rows("block=6"), "0 ");
        KIT.due("parts=2", rows("parts=2"), "0 4 ");
        KIT.due("faults=0", rows("faults=0"), "0 1 2 3 4 ");
        KIT.due("depth=1", rows("depth=1"), "2 ");
        KIT.due("name~'A'", rows("name~'A'"), "0 2 ");
        KIT.due("name~'B.X'", rows("name~'B.X'"), "2 ");
        KIT.due("name~'ABX'", rows("name~'ABX'"), "");
        KIT.due("name~'?'", rows("name ~ '?'"), "4 ");
        KIT.due("20 letters", rows("name~'12345678901234567890'"), "");
        KIT.due("& before |", rows("kind=2|kind=1&size=0"), "1 3 ");
        KIT.due("( )", rows("(kind=2|kind=1)&size=0"), "3 ");
        KIT.due("!", rows("!kind=1&size=64"), "1 ");
        KIT.due("!( )", rows("!(size=64|size=0)"), "0 2 4 ");
        KIT.due("!!", rows("!!size=0"), "3 ");
        KIT.due("blanks", rows("  ! ( kind = 1 ) |  size > 000000064  "), "0 1 4 ");
        KIT.due("9 digits", rows("size<999999999"), "0 1 2 3 4 ");
        KIT.due("count(6)", asked.count(6), 5);
    }

    private static void missingFields() {
        prepare();
        KIT.due("made of 0 is none", rows("made<1|made>0|made#5"), "0 1 2 4 ");
        KIT.due("no moment", rows("erased#7"), "");
        KIT.due("its opposite", rows("!erased#7"), "0 1 2 3 4 ");
        KIT.due("without a block", rows("!block>0"), "3 ");
        KIT.due("without a block, too", rows("block#0"), "0 1 2 4 ");
    }

    private static void orders() {
        prepare();
        KIT.due("sort size", rows("size<1000 sort size"), "3 2 1 4 0 ");
        KIT.due("sort -size", rows("size<1000 sort -size"), "0 4 1 2 3 ");
        KIT.due("of the same by numbers", rows("size<1000 sort - kind"), "1 0 2 3 4 ");
        KIT.due("sort block", rows("size<1000 sort block"), "0 1 2 4 3 ");
        KIT.due("those without it last", rows("size<1000 sort -block"), "4 2 1 0 3 ");
        KIT.due("sort -made", rows("kind=1sort-made "), "2 4 0 3 ");
        KIT.due("sort erased", rows("kind=1 sort erased"), "0 2 3 4 ");
        KIT.due("no rows", rows("kind=3 sort size"), "");
    }

    private static void fault(String question, int at) {
        prepare();
        KIT.due("question " + question, Kit.question(asked, 0, question), -100 - at);
        KIT.due("COLLECTED", asked.count(0), 0);
    }

    private static void questionFaults() {
        prepare();
        fault("", 0);
        fault("   ", 3);
        fault("x=1", 0);
        fault("kinx=1", 3);
        fault("ki nd=1", 2);
        fault("kind", 4);
        fault("ki", 2);
        fault("kinds=1", 4);
        fault("kind!1", 4);
        fault("kind=", 5);
        fault("kind==1", 5);
        fault("kind= -1", 6);
        fault("kind=1234567890", 14);
        fault("kind=1 2", 7);
        fault("kind=1 &", 8);
        fault("kind=1 && kind=2", 8);
        fault("kind=1 | ", 9);
        fault("(kind=1", 7);
        fault("(kind=1 sort size)", 8);
        fault("kind=1)", 6);
        fault("()", 1);
        fault("!", 1);
        fault("name='a'", 4);
        fault("nam", 3);
        fault("made=1 x", 7);
        fault("mode=1", 1);
        fault("name~a", 5);
        fault("name~''", 6);
        fault("name~'abc", 9);
        fault("name~'123456789012345678901'", 26);
        fault("kind=1 sorx size", 10);
        fault("kind=1 sort", 11);
        fault("kind=1 sort name", 12);
        fault("kind=1 sort siz", 15);
        fault("kind=1 sort sizi", 15);
        fault("kind=1 sort si ze", 14);
        fault("kind=1 sort --size", 13);
        fault("kind=1 sort size x", 17);
        fault("kind=1 sort size sort size", 17);
        fault("kind=1 s size", 8);
        fault("kind=1 kind", 7);
        fault("Kind=1", 0);
        fault("kind=1\0", 6);
    }

    private static void nests() {
        prepare();
        KIT.due("12 (", rows(Kit.many('(', 12) + "kind=2" + Kit.many(')', 12)), "1 ");
        fault(Kit.many('(', 13) + "kind=2" + Kit.many(')', 13), 12);
        KIT.due("12 !", rows(Kit.many('!', 12) + "kind=2"), "1 ");
        fault(Kit.many('!', 13) + "kind=2", 12);
        fault(Kit.many('!', 6) + Kit.many('(', 6) + " !kind=2", 13);
        KIT.due("one behind the other", rows("(kind=1)&(kind=1)&(kind=1)&(kind=1)&(kind=1)&(kind=1)&(kind=1)&(kind=1)&(kind=1)&(kind=1)&(kind=1)&(kind=1)&(kind=1)&size=0"), "3 ");
    }

    private static void latestRows() {
        prepare();
        rows("kind=2");
        rows("kind=");
        KIT.due("of the latest that was good", Kit.rows(asked), "1 ");
        KIT.due("row(1)", asked.row(1), -2);
        KIT.due("row(-1)", asked.row(-1), -2);
        Kit.text(asked, "kind=1");
        KIT.due("question(1)", asked.question(1), -2);
        KIT.due("leaves COLLECTED", asked.forget(), 6);
    }
}
