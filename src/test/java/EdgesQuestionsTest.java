/** Boundary cases of "8 QUESTIONS" and of promises 41 and 42, each by the sentence that names it. */
public final class EdgesQuestionsTest {
    private static final Kit KIT = new Kit("EdgesQuestions");
    private static final int MAX = Integer.MAX_VALUE, MIN = Integer.MIN_VALUE;
    private static Desk asked;

    public static void main(String[] args) {
        operators();
        fields();
        momentsOf9();
        fieldsThatAFileHasNot();
        blocksOfAFile();
        faultsBehindThe100th();
        numbers();
        names();
        nameLetters();
        andBeforeOr();
        notOne();
        twelveWithinOneAnother();
        blanks();
        orders();
        ordersOfWhatIsMissing();
        ordersOfTheSame();
        ordersOfMoments();
        filesOfAllSorts();
        wordsThatBreakOff();
        testsThatCantGoOn();
        ordersThatCantGoOn();
        endsTooEarly();
        longQuestions();
        questionsRefused();
        rowNumbers();
        KIT.finish();
    }

    /** CELLS, ZONE 2: 0 A (100 bytes), 1 D (a folder), 2 D/AB.X (65 bytes of one CLUSTER: FAULT 8), 3 E (no bytes, never made), 4 ? (LOST, 64 bytes). */
    private static Desk five() {
        Image m = Image.cells(20, 1, 1, 2, 2).root(0, "A", 0, 2, 100).chain(2, 3).root(1, "D", 16, 4, 0).chain(4, 4).root(2, "E", 0, 0, 0).root(3, "\u00e5", 0, 6, 64);
        m.row(6 * 64, "AB.X", 0, 5, 65).chain(5, 5);
        m.rowMoments(128, 900, 901).rowMoments(160, 901, 901).rowMoments(192, 0, 1).rowMoments(224, 899, 5000).rowMoments(6 * 64, 1000, 0);
        Desk x = Desk.mounted(m);
        KIT.due("names", x.names(0), "A D AB.X E ? ");
        return x;
    }

    private static String rows(String question) {
        if (asked == null) asked = five();
        Desk x = asked;
        asked = null;
        int n = x.asked(0, question);
        return n < 0 ? "" + n : x.rows();
    }

    /** The place where a question can't go on. */
    private static void place(String question, int at) {
        Desk x = Desk.mounted(new Image(1));
        KIT.due("QUESTION " + question, x.asked(0, question), -100 - at);
        KIT.due("COLLECTED are empty", x.count(0), 0);
        x.put(question + "=1|kind=1&&&&''''((((sort size 99999");
        x.forget();
        KIT.due("QUESTION where a longer one was: " + question, x.asked(0, question), -100 - at);
        x.put(question + "     ");
        x.forget();
        KIT.due("QUESTION where blanks were behind it: " + question, x.asked(0, question), -100 - at);
    }

    private static void operators() {
        KIT.says("OP: = < > # (not the same).");
        KIT.due("=", rows("size=65"), "");
        KIT.due("= 64", rows("size=64"), "1 2 4 ");
        KIT.due("< 64", rows("size<64"), "3 ");
        KIT.due("< 65", rows("size<65"), "1 2 3 4 ");
        KIT.due("> 64", rows("size>64"), "0 ");
        KIT.due("> 63", rows("size>63"), "0 1 2 4 ");
        KIT.due("> 100", rows("size>100"), "");
        KIT.due("# 64", rows("size#64"), "0 3 ");
        char[] none = {'!', '~', '+', '-', ':', ';', '?', '@', '$', '"', '%'};
        for (char c : none) place("size" + c + "1", 4);
        place("size<=1", 5);
        place("size>=1", 5);
        place("size##1", 5);
    }

    private static void fields() {
        KIT.says("FIELD: kind, size, made, altered, erased, grade, block (the first one: BLOCK 0 as block() tells it; NONE: the FILE has it not), parts (CLUSTERS or places), faults (of this FILE, also those behind the 100th), depth.");
        KIT.due("kind", rows("kind=1"), "0 2 3 4 ");
        KIT.due("size", rows("size=100"), "0 ");
        KIT.due("made", rows("made=2"), "1 ");
        KIT.due("altered", rows("altered=8200"), "4 ");
        KIT.due("erased", rows("erased#1"), "");
        KIT.due("grade", rows("grade=5"), "0 1 2 3 ");
        KIT.due("grade of the LOST one", rows("grade=3"), "4 ");
        KIT.due("block", rows("block=7"), "2 ");
        KIT.due("parts", rows("parts=2"), "0 ");
        KIT.due("parts of none", rows("parts=0"), "3 ");
        KIT.due("faults", rows("faults=1"), "2 ");
        KIT.due("no faults", rows("faults=0"), "0 1 3 4 ");
        KIT.due("depth", rows("depth=1"), "2 ");
        KIT.due("depth, too", rows("depth<1"), "0 1 3 4 ");
    }

    private static void momentsOf9() {
        KIT.says("made, altered, erased are moments as in 9");
        KIT.due("a moment of 0", rows("made=0"), "0 ");
        KIT.due("one below 0", rows("made<0"), "4 ");
        KIT.due("0 and below", rows("made<1"), "0 4 ");
        KIT.due("above 0", rows("made>0"), "1 2 ");
        KIT.due("not 0", rows("made#0"), "1 2 4 ");
        Image m = Image.nodes(20, 4).named(5, 0, 2, "a").named(5, 1, 3, "b").node(2, 1, 0).moments(2, 5, 6, 7).node(3, 1, 0).moments(3, 999999999, 0xFFFFFFFFL, 0).moments(4, 1, 0, 7);
        Desk x = Desk.mounted(m);
        KIT.due("erased, of a living one, too", x.asked(0, "erased=7") + x.rows(), "20 2 ");
        KIT.due("nine digits", x.asked(0, "made=999999999") + x.rows(), "11 ");
        KIT.due("above all numbers", x.asked(0, "altered>999999999") + x.rows(), "11 ");
        KIT.due("CELLS alone have a ZONE", x.asked(0, "made=5") + x.rows(), "10 ");
    }

    private static void fieldsThatAFileHasNot() {
        KIT.says("a FIELD that a FILE has not (a moment that is none, block without any) makes its OP false");
        KIT.due("made of 0 is none", rows("made<1|made>0"), "0 1 2 4 ");
        KIT.due("# is false, too", rows("made#7"), "0 1 2 4 ");
        KIT.due("! of it is true", rows("!made#7"), "3 ");
        KIT.due("altered of 0 is none", rows("altered#7"), "0 1 3 4 ");
        KIT.due("CELLS have no erased", rows("erased<999999999|erased>0|erased#0|erased=0"), "");
        KIT.due("no block", rows("block<999|block>0|block#1|block=0"), "0 1 2 4 ");
        KIT.due("! of it is true, too", rows("!block#1"), "3 ");
        Desk x = Desk.mounted(new Image(4).entry(0, "a", '0', 0, 5).entry(1, "b", '0', 0, 0).text(128, Formats.pack()));
        KIT.due("a TAPE has no made", x.asked(0, "made#1|erased#1"), 0);
        KIT.due("altered of 0 is none; CUT OUT has none", x.asked(0, "altered<9") + x.rows(), "10 ");
    }

    private static void blocksOfAFile() {
        KIT.says("block (the first one: BLOCK 0 as block() tells it; NONE: the FILE has it not)");
        Image m = Image.nodes(20, 4).named(5, 0, 2, "a").named(5, 1, 3, "b").named(5, 2, 4, "c").node(2, 1, 65, 2, 7).node(3, 1, 65, 7, 2).node(4, 1, 0, 7).takes(7);
        Desk x = Desk.mounted(m);
        KIT.due("a place that has none, a second that has one; no place", x.asked(0, "block>0|block<1|block#3") + x.rows(), "11 ");
        KIT.due("places count", x.asked(0, "parts=2") + x.rows(), "20 1 ");
        KIT.due("sort block", x.asked(0, "kind=1 sort block") + x.rows(), "31 0 2 ");
    }

    private static void faultsBehindThe100th() {
        KIT.says("faults (of this FILE, also those behind the 100th)");
        Desk x = Desk.mounted(Image.cells(40, 1, 1, 31, 0).fill(128, 31 * 64, 1));
        KIT.due("of 60 FILES of two each", x.asked(0, "faults=2"), 60);
        KIT.due("row(59)", x.row(59), 59);
        KIT.due("none has fewer", x.asked(0, "faults<2"), 0);
    }

    private static void numbers() {
        KIT.says("NUMBER: 1 .. 9 digits.");
        KIT.due("one", rows("parts=1"), "1 2 4 ");
        KIT.due("nine", rows("size<999999999"), "0 1 2 3 4 ");
        KIT.due("nine with 0s", rows("size=000000100"), "0 ");
        KIT.due("nine 0s", rows("size=000000000"), "3 ");
        KIT.due("all digits", rows("size<123456789|size>987654320"), "0 1 2 3 4 ");
        place("size=", 5);
        place("size=a", 5);
        place("size=/", 5);
        place("size=:", 5);
        place("size=1:", 6);
        place("size=1/", 6);
        place("size=-1", 5);
        place("size=+1", 5);
        place("size=1a", 6);
        place("size=1234567890", 14);
        place("size=0000000000", 14);
        place("size=12345678901234", 14);
        place("size=123 4", 9);
    }

    private static void names() {
        KIT.says("or \"name\" \"~\" ' letters ' (the NAME has these bytes, 1 .. 20, none of them ', one behind the other)");
        KIT.due("A", rows("name~'A'"), "0 2 ");
        KIT.due("the last", rows("name~'X'"), "2 ");
        KIT.due("all", rows("name~'AB.X'"), "2 ");
        KIT.due("one more", rows("name~'AB.XY'"), "");
        KIT.due("not one behind the other", rows("name~'AX'"), "");
        KIT.due("in the middle", rows("name~'B.'"), "2 ");
        KIT.due("no other letters", rows("name~'a'"), "");
        KIT.due("of the LOST one", rows("name~'?'"), "4 ");
        KIT.due("blanks are letters", rows("name~' A'"), "");
        KIT.due("signs of QUESTIONS are letters", rows("name~'(&|!)~\"'"), "");
        place("name~''", 6);
        place("name~'", 6);
        place("name~'a", 7);
        place("name~a", 5);
        place("name='a'", 4);
        place("name'a'", 4);
        place("name~\"a\"", 5);
        place("kind~'a'", 4);
        place("name~'a'b'", 8);
    }

    private static void nameLetters() {
        KIT.says("(the NAME has these bytes, 1 .. 20, none of them ', one behind the other)");
        Desk x = Desk.mounted(new Image(3).entry(0, "123456789012345678901234", '0', 0, 0).entry(1, "\0\u00ff(", '0', 0, 0));
        KIT.due("1", x.asked(0, "name~'4'") + x.rows(), "10 ");
        KIT.due("20, the first", x.asked(0, "name~'12345678901234567890'") + x.rows(), "10 ");
        KIT.due("20, the last", x.asked(0, "name~'56789012345678901234'") + x.rows(), "10 ");
        KIT.due("21", x.asked(0, "name~'123456789012345678901'"), -126);
        KIT.due("any bytes", x.asked(0, "name~'\0\u00ff('") + x.rows(), "11 ");
        place("name~'123456789012345678901", 26);
        place("name~'12345678901234567890", 26);
        KIT.due("a NAME without bytes has none", Desk.mounted(new Image(2).entry(0, "", '0', 0, 5)).asked(0, "name~'a'|!altered=5"), 0);
    }

    private static void andBeforeOr() {
        KIT.says("TEST: AND, any number of times \"|\" AND. AND: ONE, any number of times \"&\" ONE.");
        KIT.due("a | b & c", rows("kind=2|kind=1&size=0"), "1 3 ");
        KIT.due("a & b | c", rows("kind=1&size=0|kind=2"), "1 3 ");
        KIT.due("( a | b ) & c", rows("(kind=2|kind=1)&size=0"), "3 ");
        KIT.due("a & b & c", rows("kind=1&grade=5&size>0"), "0 2 ");
        KIT.due("a | b | c", rows("size=0|size=100|kind=2"), "0 1 3 ");
        KIT.due("name & a", rows("name~'A'&size=100"), "0 ");
        KIT.due("a & name", rows("size=64&name~'A'"), "2 ");
        KIT.due("name | a", rows("name~'X'|kind=2"), "1 2 ");
        KIT.due("a | name", rows("kind=2|name~'X'"), "1 2 ");
        KIT.due("name & name", rows("name~'A'&name~'X'"), "2 ");
        KIT.due("name | name", rows("name~'E'|name~'?'"), "3 4 ");
        KIT.due("! name & a", rows("!name~'A'&kind=1"), "3 4 ");
        KIT.due("a & ( b | c & d )", rows("kind=1&(size=0|grade=5&depth=1)"), "2 3 ");
        place("kind=1||kind=2", 7);
        place("kind=1&&kind=2", 7);
        place("kind=1&|kind=2", 7);
        place("|kind=1", 0);
        place("&kind=1", 0);
        place("kind=1 kind=2", 7);
    }

    private static void notOne() {
        KIT.says("ONE: \"!\" ONE, or \"(\" TEST \")\", or FIELD OP NUMBER");
        KIT.due("!", rows("!kind=1"), "1 ");
        KIT.due("! of the first alone", rows("!kind=1&size=64"), "1 ");
        KIT.due("! of the first alone, |", rows("!kind=1|size=0"), "1 3 ");
        KIT.due("! ( )", rows("!(kind=1&size=64)"), "0 1 3 ");
        KIT.due("! !", rows("!!kind=2"), "1 ");
        KIT.due("! ( ! )", rows("!(!kind=2)"), "1 ");
        KIT.due("( ( ) )", rows("((kind=2))"), "1 ");
        place("!", 1);
        place("!)", 1);
        place("()", 1);
        place("(kind=1", 7);
        place("(kind=1))", 8);
        place("kind=1)", 6);
        place("(kind=1(", 7);
        place("(kind=1!", 7);
        place("kind=1!", 6);
        place("kind!=1", 4);
        place("((kind=1)", 9);
    }

    private static void twelveWithinOneAnother() {
        KIT.says("12 ( and ! at most within one another.");
        KIT.due("12 (", rows(Kit.many('(', 12) + "kind=2" + Kit.many(')', 12)), "1 ");
        KIT.due("12 !", rows(Kit.many('!', 12) + "kind=2"), "1 ");
        KIT.due("11 !", rows(Kit.many('!', 11) + "kind=2"), "0 2 3 4 ");
        KIT.due("6 of each", rows(Kit.many('!', 6) + Kit.many('(', 6) + "kind=2" + Kit.many(')', 6)), "1 ");
        KIT.due("one behind the other they are more", rows("(!kind=1)|(!kind=1)|(!kind=1)|(!kind=1)|(!kind=1)|(!kind=1)|(!kind=1)"), "1 ");
        KIT.due("12 and behind them", rows(Kit.many('(', 12) + "kind=2" + Kit.many(')', 12) + "|" + Kit.many('!', 12) + "size=0"), "1 3 ");
        place(Kit.many('(', 13) + "kind=2" + Kit.many(')', 13), 12);
        place(Kit.many('!', 13) + "kind=2", 12);
        place(Kit.many('(', 12) + "!kind=2" + Kit.many(')', 12), 12);
        place(Kit.many('!', 12) + "(kind=2)", 12);
        place(Kit.many('(', 12) + "kind=2&!kind=1" + Kit.many(')', 12), 19);
        place(Kit.many('(', 12) + "kind=2)&!(kind=1" + Kit.many(')', 12), 21);
    }

    private static void blanks() {
        KIT.says("Blanks may stand between all these.");
        KIT.due("many", rows("( ! kind  =  2 )  &  name  ~  'A'   sort   -   size"), "0 2 ");
        KIT.due("none", rows("(!kind=2)&name~'A'sort-size"), "0 2 ");
        place("ki nd=1", 2);
        place("kind\t=1", 4);
        place("kind=1\n", 6);
        place("kind=1\0", 6);
        place("size=1 0", 7);
        place("kind = = 1", 7);
        place("kind  x", 6);
    }

    private static void orders() {
        KIT.says("TEST, then perhaps \"sort\" and a FIELD, with - in front falling.");
        KIT.due("kind", rows("size<999 sort kind"), "0 2 3 4 1 ");
        KIT.due("- kind", rows("size<999 sort -kind"), "1 0 2 3 4 ");
        KIT.due("size", rows("size<999 sort size"), "3 1 2 4 0 ");
        KIT.due("- size", rows("size<999 sort -size"), "0 1 2 4 3 ");
        KIT.due("made", rows("size<999 sort made"), "4 0 1 2 3 ");
        KIT.due("altered", rows("size<999 sort altered"), "3 0 1 4 2 ");
        KIT.due("erased", rows("size<999 sort erased"), "0 1 2 3 4 ");
        KIT.due("grade", rows("size<999 sort grade"), "4 0 1 2 3 ");
        KIT.due("block", rows("size<999 sort block"), "0 1 2 4 3 ");
        KIT.due("parts", rows("size<999 sort parts"), "3 1 2 4 0 ");
        KIT.due("faults", rows("size<999 sort faults"), "0 1 3 4 2 ");
        KIT.due("depth", rows("size<999 sort depth"), "0 1 3 4 2 ");
        KIT.due("without", rows("size<999"), "0 1 2 3 4 ");
        KIT.due("of those for which TEST is true", rows("kind=1 sort -size"), "0 2 4 3 ");
        KIT.due("of none", rows("kind=3 sort size"), "");
    }

    private static void ordersOfWhatIsMissing() {
        KIT.says("by the FIELD (those without it last), else, and of the same, by numbers");
        KIT.due("made", rows("size<999 sort made"), "4 0 1 2 3 ");
        KIT.due("- made", rows("size<999 sort -made"), "2 1 0 4 3 ");
        KIT.due("- altered", rows("size<999 sort -altered"), "4 0 1 3 2 ");
        KIT.due("- block", rows("size<999 sort -block"), "4 2 1 0 3 ");
        KIT.due("- erased, that none has", rows("size<999 sort -erased"), "0 1 2 3 4 ");
    }

    private static void ordersOfTheSame() {
        KIT.says("else, and of the same, by numbers");
        KIT.due("rising", rows("size<999 sort depth"), "0 1 3 4 2 ");
        KIT.due("falling", rows("size<999 sort -depth"), "2 0 1 3 4 ");
        KIT.due("grade", rows("size<999 sort -grade"), "0 1 2 3 4 ");
        Desk x = five();
        KIT.due("an order", x.asked(0, "size<999 sort -size") + x.rows(), "50 1 2 4 3 ");
        KIT.due("is forgotten", x.asked(0, "size<999") + x.rows(), "50 1 2 3 4 ");
        KIT.due("falling is forgotten", x.asked(0, "size<999 sort size") + x.rows(), "53 1 2 4 0 ");
    }

    private static void ordersOfMoments() {
        KIT.says("made, altered, erased are moments as in 9");
        Image m = Image.nodes(20, 4).named(5, 0, 2, "a").named(5, 1, 3, "b").named(5, 2, 4, "c").node(2, 1, 0).moments(2, 0xFFFFFFFFL, 0, 1).node(3, 1, 0).moments(3, 1, 0, 0).node(4, 1, 0).moments(4, 0x7FFFFFFFL, 0, 0xFFFFFFFFL);
        Desk x = Desk.mounted(m);
        KIT.due("above the greatest int", x.asked(0, "kind=1 sort made") + x.rows(), "31 2 0 ");
        KIT.due("falling", x.asked(0, "kind=1 sort -made") + x.rows(), "30 2 1 ");
        KIT.due("erased", x.asked(0, "kind=1 sort -erased") + x.rows(), "32 0 1 ");
        Image c = Image.cells(20, 1, 1, 1, 48).root(0, "A", 0, 0, 0).rowMoments(128, 21600, 1).root(1, "B", 0, 0, 0).rowMoments(160, 2, 0xFFFFFFFFL);
        Desk y = Desk.mounted(c);
        KIT.due("below 0", y.asked(0, "kind=1 sort made") + y.rows(), "21 0 ");
        KIT.due("the greatest", y.asked(0, "kind=1 sort -altered") + y.rows(), "21 0 ");
    }

    private static void filesOfAllSorts() {
        KIT.says("ROWS: all FILES for which TEST is true");
        Image m = Image.nodes(20, 4).named(5, 0, 2, "p").node(2, 1, 64, 6).takes(6).text(6 * 64, Formats.pack("in", "1")).node(3, 0, 9).moments(3, 0, 0, 5).text(9 * 64, Formats.pack());
        Desk x = Desk.mounted(m);
        x.open(0, 0);
        x.inside(0, 3);
        KIT.due("names", x.names(0), "p #3 @9 in ");
        KIT.due("living, LOST, CUT OUT, INSIDE", x.asked(0, "kind=1") + x.rows(), "40 1 2 3 ");
        KIT.due("of GRADE 5", x.asked(0, "grade=5") + x.rows(), "20 3 ");
        KIT.due("INSIDE: altered, depth, no block, no parts", x.asked(0, "altered=100&depth=1&!block#0&parts=0") + x.rows(), "13 ");
    }

    private static void wordsThatBreakOff() {
        KIT.says("in words, too: of the first byte with which none of them that may stand there goes on; the end of the bytes, if they end too early");
        String[] words = {"kind", "size", "made", "altered", "erased", "grade", "block", "parts", "faults", "depth", "name"};
        for (String w : words) {
            for (int n = 1; n < w.length(); n++) {
                place(w.substring(0, n), n);
                place(w.substring(0, n) + "#1", n);
                place(w.substring(0, n) + " " + w.substring(n) + "=1", n);
            }
            place(w, w.length());
            place(w + "x", w.length());
        }
        place("Kind=1", 0);
        place("x", 0);
        place("1=1", 0);
        place("parents=1", 3);
        place("nadir=1", 2);
        place("sort size", 1);
        place("kinda=1", 4);
        place("(sizf=1)", 4);
        place("made=1&xyz", 7);
    }

    private static void testsThatCantGoOn() {
        KIT.says("-100 less the first place where it can't go on");
        place("", 0);
        place("   ", 3);
        place(" x", 1);
        place("kind=1,", 6);
        place("kind=1 ,", 7);
        place("kind=1 &", 8);
        place("kind=1|", 7);
        place("kind=1| ", 8);
        place("(kind=1 sort size)", 8);
        place("kind=1\u00ff", 6);
        place("\u00ff", 0);
    }

    private static void ordersThatCantGoOn() {
        KIT.says("TEST, then perhaps \"sort\" and a FIELD, with - in front falling.");
        place("kind=1 s", 8);
        place("kind=1 sor", 10);
        place("kind=1 sorts", 12);
        place("kind=1 sortx", 11);
        place("kind=1 sart size", 8);
        place("kind=1 sort", 11);
        place("kind=1 sort ", 12);
        place("kind=1 sort -", 13);
        place("kind=1 sort --size", 13);
        place("kind=1 sort +size", 12);
        place("kind=1 sort name", 12);
        place("kind=1 sort nam", 12);
        place("kind=1 sort siz", 15);
        place("kind=1 sort sizx", 15);
        place("kind=1 sort size,", 16);
        place("kind=1 sort size made", 17);
        place("kind=1 sort size-", 16);
        place("kind=1 sort sort", 13);
        place("kind=1 sort size sort size", 17);
        place("kind=1 sort size&kind=1", 16);
        place("kind=1 sort 5", 12);
        place("kind=1 sort (size)", 12);
    }

    private static void endsTooEarly() {
        KIT.says("the end of the bytes, if they end too early");
        String whole = "!(kind=1|name~'ab')&size>20 sort -made";
        for (int n = 0; n < whole.length(); n++) {
            String part = whole.substring(0, n);
            if (n == 19 || n >= 26 && n <= 28) KIT.due("whole: " + part, rows(part), "1 ");
            else place(part, n);
        }
        KIT.due("all of it", rows(whole), "1 ");
    }

    private static void longQuestions() {
        KIT.says("AND, any number of times \"|\" AND");
        StringBuilder or = new StringBuilder("kind=9");
        for (int i = 0; i < 300; i++) or.append("|kind=9");
        KIT.due("300 times |", rows(or + "|kind=2"), "1 ");
        StringBuilder and = new StringBuilder("kind=1");
        for (int i = 0; i < 300; i++) and.append("&kind=1");
        KIT.due("300 times &", rows(and + "&size=0"), "3 ");
        StringBuilder nots = new StringBuilder("!size=0");
        for (int i = 0; i < 200; i++) nots.append("&!!size#9");
        KIT.due("200 times !!", rows(nots.toString()), "0 1 2 4 ");
        Desk x = five();
        for (int i = 0; i < 3; i++) KIT.due("again " + i, x.asked(0, or.substring(0, 699) + "|kind=2"), 1);
    }

    private static void questionsRefused() {
        KIT.says("A QUESTION to a TREE: how many ROWS. BAD; COLLECTED are empty then");
        Desk x = five();
        x.asked(0, "kind=2");
        x.put("kind=1");
        KIT.due("TREE 1", x.question(1), -2);
        KIT.due("TREE -1", x.question(-1), -2);
        KIT.due("the greatest TREE", x.question(MAX), -2);
        KIT.due("COLLECTED stay", x.count(0), 6);
        KIT.due("ROWS stay", x.rows(), "1 ");
        KIT.due("TREE 0", x.question(0), 4);
        KIT.due("COLLECTED are empty", x.count(0), 0);
        KIT.due("one that is none", x.asked(0, "kind=2&"), -107);
        KIT.due("COLLECTED are empty, too", x.count(0), 0);
        KIT.says("ROW i of the latest QUESTION that was good: a FILE. BAD.");
        KIT.due("ROWS stay, too", x.rows(), "0 2 3 4 ");
        KIT.due("no ROWS", x.asked(0, "kind=3"), 0);
        KIT.due("count(6)", x.count(6), 0);
    }

    private static void rowNumbers() {
        KIT.says("ROW i of the latest QUESTION that was good: a FILE. BAD.");
        Desk x = five();
        KIT.due("before any", x.row(0), -2);
        KIT.due("kind=1", x.asked(0, "kind=1"), 4);
        KIT.due("ROW 3", x.row(3), 4);
        KIT.due("ROW 4", x.row(4), -2);
        KIT.due("ROW -1", x.row(-1), -2);
        KIT.due("the greatest ROW", x.row(MAX), -2);
        KIT.due("the least ROW", x.row(MIN), -2);
    }
}
