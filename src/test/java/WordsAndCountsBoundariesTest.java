/** The boundary cases of promises 20 to 26, of words and of counts, a method for each sentence. */
public final class WordsAndCountsBoundariesTest {
    private static final int NONE = Due.NONE, BAD = Due.BAD, FULL = Due.FULL;
    private static final int LEAST = Integer.MIN_VALUE, MOST = Integer.MAX_VALUE;
    private static final int[] NO_PAIRS = {-1, 2, 3, LEAST, MOST};

    /** Two pairs; a third one was undone. Of each list there is something. */
    private static Run filled() {
        Run r = new Run().except(1, "dr").term(0, "cat katze").term(1, "dog hund").forbid(1, "nein").forbid(2, "oh");
        r.book("The cat. A dog 1! The CAT. so", 4).keep(0, 0, "Die Katze").keep(1, 1, "ein Hund 1, oh");
        return r.keep(2, 3, "x").due(2, "undo").due(4, "differ", 0, 1).write("tape");
    }

    private static void termRefused() {
        Due.sentence("has its WORD, one byte 32, its rendering: its number. BAD; FULL.");
        String[] bad = {"", " ", "a", "a ", " a", "a  b", "a b ", " a b", "a b c", "a\tb", "a-b", "a1 b", "a b1",
            "1 b", "a 1", "a {", "` b", "a" + (char) 225 + " b", "a <1>", "x".repeat(600), " ".repeat(600)};
        for (String text : bad) {
            filled().write(text).refused(BAD, "term");
        }
        new Run().refused(BAD, "term");
        Due.sentence("a WORD (of 1 to 8 letters) and its rendering, likewise");
        new Run().term(0, "a b").term(1, "abcdefgh b").term(2, "a abcdefgh").term(3, "abcdefgh ABCDEFGH").dueTape("");
        for (String text : new String[] {"abcdefghi b", "a abcdefghi", "abcdefghi abcdefghi"}) {
            filled().write(text).refused(BAD, "term");
        }
    }

    private static void terms10() {
        Due.sentence("TERMS: 10 at most");
        Run r = new Run();
        for (int t = 0; t < 10; t++) {
            r.term(t, "a b").due(t + 1, "about", 6).due(0, "about", 4);
        }
        r.write("a b").refused(FULL, "term").write("c d").refused(FULL, "term").write("a").refused(BAD, "term");
        r.write("").refused(BAD, "term").write("abcdefghi b").refused(BAD, "term").due(10, "about", 6);
    }

    private static void forbidRefused() {
        Due.sentence("is a WORD more that is FORBIDDEN: how many. BAD; FULL.");
        String[] bad = {"", " ", "abcdefghi", "a b", " a", "a ", "1", "a1", "a.", "@", "[", "`", "{", "<1>",
            "a" + (char) 0, "x".repeat(600)};
        for (String text : bad) {
            filled().write(text).refused(BAD, "forbid");
        }
        new Run().refused(BAD, "forbid").forbid(1, "a").forbid(2, "abcdefgh").dueTape("").refused(BAD, "forbid");
        Due.sentence("FORBIDDEN: 5 WORDS at most.");
        Run r = new Run();
        for (int f = 1; f <= 5; f++) {
            r.forbid(f, "a").due(f, "about", 7);
        }
        r.write("a").refused(FULL, "forbid").write("b").refused(FULL, "forbid").write("1").refused(BAD, "forbid");
        r.write("").refused(BAD, "forbid").write("abcdefghi").refused(BAD, "forbid").due(5, "about", 7);
    }

    private static void holds() {
        Due.sentence("HOLDS a TERM if its rendering stands there just as often as the WORD in the source (WORDS with "
            + "alike letters)");
        Run r = new Run().term(0, "cat katze").book("cat Cat. none", 2).keep(0, 0, "katze KATZE").due(200, "faults", 0);
        r.change(2, 0, "katze").due(0, "faults", 0).change(3, 0, "katze katze katze").due(0, "faults", 0);
        r.change(4, 0, "").due(0, "faults", 0).change(5, 0, "katzen katze katze").due(200, "faults", 0);
        r.change(6, 0, "katze1katze").due(200, "faults", 0).change(7, 0, "katzekatze").due(0, "faults", 0);
        r.keep(1, 1, "").due(200, "faults", 1).change(9, 1, "katze").due(0, "faults", 1);
        Due.sentence("a WORD (of 1 to 8 letters) and its rendering, likewise");
        r = new Run().term(0, "abcdefgh zyxwvuts").book("ABCDEFGH abcdefghi", 1).keep(0, 0, "zyxwvuts");
        r.due(200, "faults", 0).change(2, 0, "zyxwvuts zyxwvutsr").due(200, "faults", 0);
        r.change(3, 0, "zyxwvutsr").due(0, "faults", 0).change(4, 0, "yxwvuts").due(0, "faults", 0);
    }

    private static void faultNumbers() {
        Due.sentence("The first TERM, by numbers, that a PAIR does not HOLD; 100 and the number of the first FORBIDDEN "
            + "WORD that stands in its RENDERING, if it HOLDS all; 200: there is neither. NONE.");
        Run r = new Run().book("a", 1).keep(0, 0, "x y").due(200, "faults", 0);
        for (int t = 0; t < 9; t++) {
            r.term(t, "b z");
        }
        r.due(200, "faults", 0).term(9, "a z").due(9, "faults", 0).change(2, 0, "z y").due(0, "faults", 0);
        r = new Run().book("a", 1).keep(0, 0, "x y");
        for (int f = 1; f <= 4; f++) {
            r.forbid(f, "q");
        }
        r.due(200, "faults", 0).forbid(5, "Y").due(104, "faults", 0).change(2, 0, "Q y").due(100, "faults", 0);
        r.change(3, 0, "q").due(100, "faults", 0).change(4, 0, "qq").due(200, "faults", 0);
        r.term(0, "a a").due(0, "faults", 0).change(5, 0, "q").due(0, "faults", 0);
        r.change(6, 0, "a q").due(100, "faults", 0).change(7, 0, "a").due(200, "faults", 0);
        r.due(0, "undo").due(100, "faults", 0);
        // a WORD of the source that is FORBIDDEN is no fault
        new Run().forbid(1, "a").book("a", 1).keep(0, 0, "b").due(200, "faults", 0);
        new Run().forbid(1, "abcdefgh").book("a", 1).keep(0, 0, "abcdefghi").due(200, "faults", 0)
            .change(2, 0, "ABCDEFGH").due(100, "faults", 0);
        for (int pair : NO_PAIRS) {
            filled().refused(NONE, "faults", pair);
        }
        filled().due(200, "faults", 0).due(101, "faults", 1);
        new Run().refused(NONE, "faults", 0).book("a", 1).refused(NONE, "faults", 0);
    }

    private static void longRenderings() {
        Due.sentence("if its rendering stands there just as often");
        Run r = new Run().term(0, "a b").book("a ".repeat(20), 1).keep(0, 0, "b ".repeat(20) + "c ".repeat(280));
        r.due(200, "faults", 0).forbid(1, "c").due(100, "faults", 0);
        r.change(2, 0, "c ".repeat(280) + "b ".repeat(20)).due(100, "faults", 0);
        r.change(3, 0, "- ".repeat(279) + "b ".repeat(21)).due(0, "faults", 0);
        new Run().forbid(1, "c").book("a", 1).keep(0, 0, "-".repeat(599) + "c").due(100, "faults", 0);
    }

    private static void dueCounted(int want, int score, String source, String segment) {
        new Run().book(source, 1).keep(0, 0, "").book(segment, 1).due(score, "score", 0, 0).due(want, "counted", 0);
    }

    private static void counted() {
        Due.sentence("else 2 NEAR, 3 FAR, 4 NEW by the greatest SCORE of all PAIRS (75 and more, 50 and more, less or no "
            + "PAIR)");
        dueCounted(2, 75, "a b c d", "a b c x");
        dueCounted(2, 75, "a b c d e f g h i j k l", "x y z D e f g h i j k l");
        dueCounted(3, 74, "a b c d 1", "A x c d 2");
        dueCounted(3, 50, "a b", "a x");
        dueCounted(3, 50, "a b c d e f g h i j k l", "u v w x y z G h i j k l");
        dueCounted(4, 49, "a b c 1 2 3 d", "x y z 4 5 6 d");
        dueCounted(4, 0, "a", "b");
        dueCounted(4, 0, " ", "b");
        dueCounted(2, 98, "w ".repeat(19) + "<1/>", "w ".repeat(19));
        dueCounted(4, 0, "w ".repeat(20), "v ".repeat(20));
        new Run().book("a", 1).due(4, "counted", 0).keep(0, 0, "").due(1, "counted", 0).due(0, "undo")
            .due(4, "counted", 0);
        String[] near = {"a b c d", "a b y z"};
        for (int first = 0; first < 2; first++) {
            Run r = new Run().book(near[first], 1).keep(0, 0, "").book(near[1 - first], 1).keep(1, 0, "");
            r.book("a b c x", 1).due(75, "score", 0, first).due(50, "score", 0, 1 - first).due(2, "counted", 0);
            r.book("A B c D", 1).due(1, "counted", 0);
        }
    }

    private static void againAndKnown() {
        Due.sentence("each SEGMENT, in order, is 0 AGAIN, if it is LIKE a SEGMENT ahead of it; else 1 KNOWN, if it is "
            + "LIKE the source of a PAIR");
        Run r = new Run().book("a 1. A 2. b. a 3.5. a", 5);
        int[] bare = {4, 0, 4, 0, 4};
        for (int s = 0; s < 5; s++) {
            r.due(bare[s], "counted", s);
        }
        r.keep(0, 3, "").due(1, "counted", 0).due(0, "counted", 1).due(0, "counted", 3);
        r.book("A 99.", 1).due(1, "counted", 0).book(" ", 1).due(4, "counted", 0);
        r.keep(1, 0, "").due(1, "counted", 0).book("   ", 1).due(1, "counted", 0);
        Run all = new Run().book("a! ".repeat(24), 24).due(4, "counted", 0).due(0, "counted", 23).keep(0, 23, "");
        all.due(1, "counted", 0).due(0, "counted", 23).due(1, "count", 1, 0).due(23, "count", 0, 0);
        Due.sentence("How a SEGMENT is counted: 0 to 4. NONE.");
        for (int s : new int[] {-1, 4, LEAST, MOST}) {
            filled().refused(NONE, "counted", s);
        }
        new Run().refused(NONE, "counted", 0).book("", 0).refused(NONE, "counted", 0);
    }

    private static void count() {
        Due.sentence("NONE: kind not 0 .. 4; BAD: words.");
        for (int kind : new int[] {-1, 5, LEAST, MOST}) {
            filled().refused(NONE, "count", kind, 0).refused(NONE, "count", kind, 2).refused(NONE, "count", kind, -1);
        }
        for (int words : new int[] {-1, 2, LEAST, MOST}) {
            filled().refused(BAD, "count", 0, words).refused(BAD, "count", 4, words);
            new Run().refused(BAD, "count", 0, words).refused(NONE, "count", 5, words);
        }
        Due.sentence("How many SEGMENTS of THE BOOK are counted so (words 0), how many WORDS they have (words 1).");
        // in filled(): KNOWN, KNOWN, AGAIN, NEW
        filled().due(1, "count", 0, 0).due(2, "count", 0, 1).due(2, "count", 1, 0).due(4, "count", 1, 1)
            .due(0, "count", 2, 0).due(0, "count", 2, 1).due(0, "count", 3, 0).due(0, "count", 3, 1)
            .due(1, "count", 4, 0).due(1, "count", 4, 1);
        Run r = new Run().book("a b c d. q", 2).keep(0, 0, "").book("a b c x. a b x y. 1 2. a a. A A.", 5);
        r.due(1, "count", 2, 0).due(4, "count", 2, 1).due(1, "count", 3, 0).due(4, "count", 3, 1);
        r.due(2, "count", 4, 0).due(2, "count", 4, 1).due(1, "count", 0, 0).due(2, "count", 0, 1);
        r.due(0, "count", 1, 0).due(0, "count", 1, 1);
        for (int kind = 0; kind < 5; kind++) {
            filled().book("", 0).due(0, "count", kind, 0).due(0, "count", kind, 1);
        }
        String each = "a ".repeat(11) + "! ";
        new Run().book(each.repeat(24), 24).due(24 - 1, "count", 0, 0).due(23 * 11, "count", 0, 1)
            .due(11, "count", 4, 1);
    }

    private static void spread() {
        Due.sentence("How many SEGMENTS of THE BOOK are LIKE the source of a PAIR. NONE.");
        for (int pair : NO_PAIRS) {
            filled().refused(NONE, "spread", pair);
        }
        new Run().refused(NONE, "spread", 0).book("a", 1).refused(NONE, "spread", 0);
        filled().due(2, "spread", 0).due(1, "spread", 1).book("", 0).due(0, "spread", 0).book("x", 1)
            .due(0, "spread", 1);
        new Run().book("a! ".repeat(24), 24).keep(0, 23, "").due(24, "spread", 0).book("a!", 1).due(1, "spread", 0);
        Run r = new Run().book("a", 1);
        for (int p = 0; p < 20; p++) {
            r.due(p, "keep", 0, 0);
        }
        r.due(1, "spread", 19).refused(NONE, "spread", 20);
    }

    private static void about() {
        Due.sentence("4 bytes of THE TAPE, 5 EXCEPTIONS, 6 TERMS, 7 FORBIDDEN WORDS. NONE.");
        Run r = filled();
        int[] want = {4, 2, 2, 2, 4, 1, 2, 2};
        for (int what = 0; what < 8; what++) {
            r.due(want[what], "about", what);
        }
        r.refused(NONE, "about", 8).refused(NONE, "about", -1);
        r.refused(NONE, "about", LEAST).refused(NONE, "about", MOST);
        new Run().refused(NONE, "about", 8).refused(NONE, "about", -1);
        Due.sentence("0 SEGMENTS, 1 PAIRS that are there, 2 RENDERINGS, 3 TIME");
        r.change(3, 1, "x").due(2, "about", 1).due(3, "about", 2).due(3, "about", 3).due(1, "undo");
        r.due(2, "about", 2).due(1, "undo").due(1, "about", 1).due(1, "about", 2).due(1, "about", 3);
        r.book("", 0).due(0, "about", 0).due(1, "about", 1);
    }

    private static void allFull() {
        Due.sentence("They change nothing.");
        Run r = new Run();
        for (int i = 1; i <= 8; i++) {
            r.except(i, "q");
        }
        for (int t = 0; t < 10; t++) {
            r.term(t, "a b");
        }
        for (int f = 1; f <= 5; f++) {
            r.forbid(f, "c");
        }
        r.book("a! ".repeat(24), 24);
        for (int p = 0; p < 20; p++) {
            r.due(1, "feed", 'b', 1).due(p, "keep", p, p);
        }
        for (int t = 21; t <= 40; t++) {
            r.due(1, "feed", 'b', 1).due(t, "change", t - 21, t);
        }
        int[] most = {24, 20, 40, 40, 0, 8, 10, 5};
        for (int what = 0; what < 8; what++) {
            r.due(most[what], "about", what);
        }
        r.write("z").refused(FULL, "except").refused(FULL, "forbid").refused(FULL, "keep", 0, 0);
        r.refused(FULL, "change", 0, 0).refused(BAD, "term").write("a b").refused(FULL, "term");
        r.refused(BAD, "except").refused(BAD, "forbid").due(200, "faults", 0).due(200, "faults", 19);
    }

    public static void main(String[] args) {
        termRefused();
        terms10();
        forbidRefused();
        holds();
        faultNumbers();
        longRenderings();
        counted();
        againAndKnown();
        count();
        spread();
        about();
        allFull();
        Due.end();
    }
}
