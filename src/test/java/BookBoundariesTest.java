/** The boundary cases of promises 1 to 8 and of THE BOOK, a method for each sentence. */
public final class BookBoundariesTest {
    private static final int NONE = Due.NONE, BAD = Due.BAD, STATE = Due.STATE, FULL = Due.FULL;
    private static final int LEAST = Integer.MIN_VALUE, MOST = Integer.MAX_VALUE;

    /** Something of all there is, so that a change by a refused call would be seen. */
    private static Run filled() {
        Run r = new Run().except(1, "dr").except(2, "a").term(0, "cat katze").forbid(1, "hund");
        r.book("The cat 1. dr. no <1>x</1>! <2> q", 3).keep(0, 0, "Die Katze 1").keep(1, 1, "<1>x</1>");
        return r.change(3, 0, "Katze 1").due(7, "differ", 0, 1).write("tape <3>");
    }

    private static void newObject() {
        Due.sentence("An empty TAPE, an empty BOOK, nothing kept.");
        Run r = new Run();
        for (int what = 0; what < 8; what++) {
            r.due(0, "about", what);
        }
        r.due(NONE, "tape", 0).due(0, "cut", 0).due(NONE, "segment", 0, 0).due(NONE, "piece", 0, 0, 0);
        r.due(NONE, "pair", 0, 0).due(NONE, "rendered", 0, -1, 0).due(NONE, "rendered", 0, 0, 0);
        r.due(NONE, "like", 0, 0).due(NONE, "score", 0, 0).due(NONE, "found", 0, 0, 0).due(NONE, "differ", 0, 0);
        r.due(NONE, "step", 0, 0).due(NONE, "patch", 0, 0).due(NONE, "faults", 0).due(NONE, "counted", 0);
        r.due(NONE, "spread", 0).due(NONE, "keep", 0, 0).due(NONE, "change", 0, 0).due(STATE, "undo");
        r.due(BAD, "except").due(BAD, "term").due(BAD, "forbid").due(BAD, "cut", 1);
        for (int kind = 0; kind < 5; kind++) {
            r.due(0, "count", kind, 0).due(0, "count", kind, 1);
        }
        r.due(0, "load");
        Due.text("a new object behind calls that change nothing", r.all(), new Run().all());
    }

    private static void objectsApart() {
        Due.sentence("An empty TAPE, an empty BOOK, nothing kept.");
        filled();
        Due.text("an object made behind another one", new Run().all(), new Run().book("", 0).all());
    }

    private static void feed() {
        Due.sentence("The n lowest bytes of w, the highest first, come behind THE TAPE's: how many it has.");
        Run r = new Run().due(1, "feed", 0x4142434445464748L, 1).dueTape("H");
        r.due(3, "feed", 0x4142434445464748L, 2).dueTape("HGH");
        r.due(11, "feed", 0x4142434445464748L, 8).dueTape("HGHABCDEFGH");
        r.due(18, "feed", 0xff42434445464748L, 7).dueTape("HGHABCDEFGHBCDEFGH");
        r.due(26, "feed", -1L, 8).due(255, "tape", 18).due(255, "tape", 25).due(NONE, "tape", 26);
        r.due(34, "feed", Long.MIN_VALUE, 8).due(128, "tape", 26).due(0, "tape", 27).due(0, "tape", 33);
        r.due(42, "feed", Long.MAX_VALUE, 8).due(127, "tape", 34).due(255, "tape", 41);
        r.due(43, "feed", 0, 1).due(0, "tape", 42);
        r.due(44, "feed", 256, 1).due(0, "tape", 43);
        Due.sentence("BAD: n not 1 .. 8; FULL.");
        for (Run one : new Run[] {new Run(), filled(), new Run().write("x".repeat(600))}) {
            one.refused(BAD, "feed", 'a', 0).refused(BAD, "feed", 'a', 9).refused(BAD, "feed", 'a', -1);
            one.refused(BAD, "feed", 'a', LEAST).refused(BAD, "feed", 'a', MOST);
        }
        for (int n = 1; n <= 8; n++) {
            new Run().write("x".repeat(600 - n)).due(600, "feed", 'a', n);
            new Run().write("x".repeat(601 - n)).refused(FULL, "feed", 'a', n);
        }
    }

    private static void cut() {
        Due.sentence("THE TAPE keeps its first n bytes: n. BAD.");
        Run r = new Run().refused(BAD, "cut", 1).due(0, "cut", 0).write("abc");
        r.refused(BAD, "cut", 4).refused(BAD, "cut", -1).refused(BAD, "cut", LEAST).refused(BAD, "cut", MOST);
        r.due(3, "cut", 3).dueTape("abc").due(2, "cut", 2).dueTape("ab").refused(BAD, "cut", 3);
        r.due(0, "cut", 0).dueTape("").refused(BAD, "cut", 1);
        new Run().write("x".repeat(600)).refused(BAD, "cut", 601).due(600, "cut", 600).due(599, "cut", 599)
            .due(599, "about", 4);
        filled().refused(BAD, "cut", 9).refused(BAD, "cut", -1);
    }

    private static void tape() {
        Due.sentence("Byte i of THE TAPE, 0 .. 255. NONE.");
        Run r = new Run().refused(NONE, "tape", 0).due(3, "feed", 0x00ff80, 3);
        r.due(0, "tape", 0).due(255, "tape", 1).due(128, "tape", 2);
        r.refused(NONE, "tape", 3).refused(NONE, "tape", -1).refused(NONE, "tape", LEAST).refused(NONE, "tape", MOST);
        r.due(1, "cut", 1).refused(NONE, "tape", 1).refused(NONE, "tape", 2);
        filled().refused(NONE, "tape", 8).refused(NONE, "tape", -1);
    }

    private static void except() {
        Due.sentence("BAD: it is no WORD of 1 to 8 letters; FULL.");
        String[] bad = {"", "abcdefghi", "a1", "1a", "1", "a b", " a", "a ", " ", "a.", "<1>", "`", "{", "@", "[",
            "a" + (char) 225, "a" + (char) 0, "x".repeat(600)};
        for (String word : bad) {
            filled().write(word).refused(BAD, "except");
        }
        new Run().except(1, "a").except(2, "z").except(3, "A").except(4, "Z").except(5, "abcdefgh").dueTape("");
        Due.sentence("EXCEPTIONS: 8 at most, WORDS of 1 to 8 letters.");
        Run r = new Run();
        for (int i = 1; i <= 8; i++) {
            r.except(i, "abcdefgh".substring(i - 1));
        }
        r.write("z").refused(FULL, "except").write("1").refused(BAD, "except").write("").refused(BAD, "except");
        r.write("abcdefghi").refused(BAD, "except").due(8, "about", 5);
        r.dueSegments("abcdefgh. h. z. ", "q");
    }

    private static void exceptAgain() {
        Due.sentence("A WORD, THE TAPE's bytes, is an EXCEPTION more: how many; THE TAPE is empty then.");
        Run r = new Run();
        for (int i = 1; i <= 8; i++) {
            r.except(i, i % 2 == 0 ? "a" : "A").due(0, "about", 4).due(i, "about", 5);
        }
        r.write("a").refused(FULL, "except");
    }

    private static void bookStays() {
        Due.sentence("(THE BOOK stays as it was cut.)");
        Run r = new Run().dueSegments("dr. ", "a").except(1, "dr").due(2, "about", 0).due(4, "segment", 0, 1);
        r.dueSegments("dr. a");
    }

    private static void load() {
        Due.sentence("how many SEGMENTS (0: it was empty)");
        new Run().due(0, "load").due(0, "about", 0);
        filled().write("").due(0, "load").due(0, "about", 0).due(NONE, "segment", 0, 0).due(2, "about", 1)
            .due(0, "spread", 0).due(0, "count", 4, 0);
        new Run().book(" ", 1).book("a", 1).due(0, "about", 4).due(0, "load");
        Due.sentence("FULL: more than 24, or one of more than 20 SOLID PIECES.");
        filled().book("a! ".repeat(24), 24).write("a! ".repeat(25)).refused(FULL, "load");
        filled().write("a! ".repeat(24) + "a").refused(FULL, "load");
        filled().book("!".repeat(20), 1).write("!".repeat(21)).refused(FULL, "load");
        filled().write("x! ".repeat(24) + " ").due(24, "load");
        String twenty = "w ".repeat(20);
        filled().book(twenty, 1).due(20, "segment", 0, 3).due(40, "segment", 0, 2);
        filled().write(twenty + "w").refused(FULL, "load");
        filled().write(twenty + "!").refused(FULL, "load");
        filled().write(twenty + "! b").refused(FULL, "load");
        filled().write("b! " + twenty + "!").refused(FULL, "load");
        filled().write("b! " + twenty + "! c").refused(FULL, "load");
        filled().write("w ".repeat(19) + "! " + "w ".repeat(19) + "! " + twenty).due(3, "load");
        filled().write("x! ".repeat(24) + "w ".repeat(21)).refused(FULL, "load");
        filled().write("-".repeat(600)).refused(FULL, "load");
    }

    private static void fullBook() {
        Due.sentence("24 at most, each of at most 20 SOLID PIECES");
        Run r = new Run().book("-".repeat(19) + "! " + "-".repeat(19) + "? " + "a. ".repeat(22), 24);
        r.due(20, "segment", 0, 3).due(20, "segment", 1, 3).due(2, "segment", 23, 3);
        r.due(105, "segment", 23, 0).due(3, "segment", 23, 1).refused(NONE, "segment", 24, 0);
        r.due(5, "piece", 1, 19, 0).due(40, "piece", 1, 19, 1).refused(NONE, "piece", 1, 20, 0);
        String each = "-".repeat(19) + "!" + "     ";
        Run all = new Run().book(each.repeat(24), 24).due(0, "about", 4);
        all.due(575, "segment", 23, 0).due(25, "segment", 23, 1).due(594, "piece", 23, 19, 1);
        all.due(20, "segment", 23, 3).due(21, "segment", 23, 2);
    }

    private static void ends() {
        Due.sentence("a SEGMENT ends behind a SIGN . ! ? behind which there is a BLANK (that belongs to it, too) or "
            + "the end of THE BOOK");
        Run r = new Run().dueSegments("a. ", "b! ", "c? ", "d").dueSegments("a.   ", "b").dueSegments("a.");
        r.dueSegments("a!").dueSegments("a?").dueSegments("a. ").dueSegments("a.b").dueSegments("a.\tb");
        r.dueSegments("a.\"b").dueSegments("a... ", "b").dueSegments("a?! ", "b").dueSegments(". ", ". ", ".");
        r.dueSegments("a, b; c: d").dueSegments("a.1 b").dueSegments("a.<1> b").dueSegments("<1>a.</1> b");
        r.dueSegments("1. ", "1.5 ").dueSegments("1.5. ", "a").dueSegments("1.a").dueSegments("a .");
        r.dueSegments("a / b > c - d").dueSegments("a @ b").dueSegments("a , b");
    }

    private static void notBehindExceptions() {
        Due.sentence("but not behind a . right ahead of which stands a WORD that is an EXCEPTION");
        Run r = new Run().except(1, "dr").except(2, "abcdefgh");
        r.dueSegments("dr. a").dueSegments("DR. a").dueSegments("Dr. a").dueSegments("dr! ", "a");
        r.dueSegments("dr? ", "a").dueSegments("dr . ", "a").dueSegments("dr.. ", "a").dueSegments("dr1. ", "a");
        r.dueSegments("1dr. a").dueSegments("<1>dr. a").dueSegments("dr<1>. ", "a").dueSegments("xdr. ", "a");
        r.dueSegments("drx. ", "a").dueSegments("d. ", "r. ", "a").dueSegments("d r. ", "a");
        r.dueSegments("abcdefgh. a").dueSegments("abcdefghi. ", "a").dueSegments("xabcdefgh. ", "a");
        r.dueSegments("bcdefgh. ", "a").dueSegments(". ", "a").dueSegments("a. ", "dr. b. ", "c");
        r.dueSegments("dr.");
    }

    private static void endOfTheBook() {
        Due.sentence("; and at the end of THE BOOK.");
        Run r = new Run().dueSegments("a").dueSegments("a b").dueSegments("a. ", "b").except(1, "dr");
        r.dueSegments("a. ", "dr.").dueSegments("a. ", "dr. ").dueSegments("dr.");
        Due.sentence("(A BLANK at its begin belongs to the first one.)");
        r.dueSegments("  a. ", "b").dueSegments(" ").dueSegments("   . ", "b").dueSegments(" a");
    }

    private static void segment() {
        Due.sentence("5 whether it is TORN (1, 0). NONE.");
        Run r = filled();
        r.due(28, "segment", 2, 0).due(5, "segment", 2, 1).due(3, "segment", 2, 2).due(2, "segment", 2, 3);
        r.due(1, "segment", 2, 4).due(1, "segment", 2, 5).due(0, "segment", 1, 5).due(0, "segment", 0, 0);
        r.refused(NONE, "segment", 3, 0).refused(NONE, "segment", -1, 0).refused(NONE, "segment", 0, 6);
        r.refused(NONE, "segment", 0, -1).refused(NONE, "segment", LEAST, 0).refused(NONE, "segment", MOST, 0);
        r.refused(NONE, "segment", 0, LEAST).refused(NONE, "segment", 0, MOST).refused(NONE, "segment", 3, 6);
        r.book("a", 1).due(0, "segment", 0, 5).refused(NONE, "segment", 1, 0).refused(NONE, "segment", 2, 0);
        r.book("", 0).refused(NONE, "segment", 0, 0);
        new Run().book(" ", 1).due(0, "segment", 0, 0).due(1, "segment", 0, 1).due(1, "segment", 0, 2)
            .due(0, "segment", 0, 3).due(0, "segment", 0, 4).due(0, "segment", 0, 5);
    }

    private static void piece() {
        Due.sentence("1 where it begins in THE BOOK, 2 how many bytes. NONE.");
        Run r = filled();
        r.due(2, "piece", 2, 0, 0).due(28, "piece", 2, 0, 1).due(3, "piece", 2, 0, 2).due(32, "piece", 2, 1, 1);
        r.refused(NONE, "piece", 2, 2, 0).refused(NONE, "piece", 2, -1, 0).refused(NONE, "piece", 3, 0, 0);
        r.refused(NONE, "piece", -1, 0, 0).refused(NONE, "piece", 2, 0, 3).refused(NONE, "piece", 2, 0, -1);
        for (int far : new int[] {LEAST, MOST}) {
            r.refused(NONE, "piece", far, 0, 0).refused(NONE, "piece", 0, far, 0).refused(NONE, "piece", 0, 0, far);
        }
        r.book("a", 1).refused(NONE, "piece", 0, 1, 0).refused(NONE, "piece", 1, 0, 0);
        r.book(" ", 1).refused(NONE, "piece", 0, 0, 0).book("", 0).refused(NONE, "piece", 0, 0, 0);
        r.book("w ".repeat(20), 1).due(38, "piece", 0, 19, 1).refused(NONE, "piece", 0, 20, 1);
        Due.sentence("what 0: 0 WORD, 1 NUMBER, 2 OPEN, 3 CLOSE, 4 SINGLE, 5 SIGN;");
        r.book("a 1 <1> </1> <1/> -", 1);
        for (int i = 0; i < 6; i++) {
            r.due(i, "piece", 0, i, 0);
        }
    }

    public static void main(String[] args) {
        newObject();
        objectsApart();
        feed();
        cut();
        tape();
        except();
        exceptAgain();
        bookStays();
        load();
        fullBook();
        ends();
        notBehindExceptions();
        endOfTheBook();
        segment();
        piece();
        Due.end();
    }
}
