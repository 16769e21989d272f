/** The boundary cases that the document's 'What it is' and 'Terms' name, a method for each sentence. */
public final class TermsBoundariesTest {
    private static final int NONE = Due.NONE, TORN = Due.TORN, STATE = Due.STATE, FULL = Due.FULL;

    private static String bytes(int... of) {
        StringBuilder b = new StringBuilder();
        for (int one : of) {
            b.append((char) one);
        }
        return b.toString();
    }

    /** A run whose pair 0 has this source, and whose book is this segment. */
    private static Run pairAndSegment(String source, String segment) {
        return new Run().book(source, 1).keep(0, 0, "").book(segment, 1);
    }

    private static void dueLike(int want, String a, String b) {
        pairAndSegment(a, b).due(want, "like", 0, 0);
        pairAndSegment(b, a).due(want, "like", 0, 0);
    }

    private static void dueScore(int want, String source, String segment) {
        pairAndSegment(source, segment).due(want, "score", 0, 0);
    }

    /** Of rows of ten solid pieces at most, nine of which are the same, SCORE is 100 less D. */
    private static void dueSum(int want, String left, String right) {
        String nine = "q w e r t z u i o ";
        dueScore(100 - want, nine + left, nine + right);
        dueScore(100 - want, left + " " + nine, right + " " + nine);
    }

    private static void dueSteps(String source, String segment, String want) {
        int n = want.isEmpty() ? 0 : want.split(" ").length;
        pairAndSegment(source, segment).due(n, "differ", 0, 0).dueSteps(want);
    }

    /** THE TAPE of a patch, or, if it is refused, that it is and that nothing is changed. */
    private static void duePatched(String source, String rendering, String segment, String want) {
        patchRun(source, rendering, segment).due(want.length(), "patch", 0, 0).dueTape(want);
    }

    private static void dueFails(String source, String rendering, String segment) {
        patchRun(source, rendering, segment).refused(STATE, "patch", 0, 0);
    }

    private static Run patchRun(String source, String rendering, String segment) {
        return new Run().book(source, 1).keep(0, 0, rendering).book(segment, 1).write("old");
    }

    private static void lastCalls() {
        Due.sentence("An object is used for at most 512 calls after it has been made");
        Run r = new Run().book("a b. c", 2).keep(0, 0, "x");
        while (r.calls() < Run.MOST_CALLS - 4) {
            r.due(0, "cut", 0);
        }
        r.due(1, "feed", 'y', 1).due(2, "change", 0, 7).due(0, "undo").due('x', "rendered", 0, 1, 0);
        Due.answer("the number of calls", r.calls(), Run.MOST_CALLS);
    }

    private static void tape600() {
        Due.sentence("THE TAPE has at most 600 bytes.");
        Run r = new Run().write("b".repeat(592)).due(600, "feed", 0x0102030405060708L, 8);
        r.due(8, "tape", 599).due(NONE, "tape", 600).due('b', "tape", 0).refused(FULL, "feed", 0, 1);
        r.dueTape("b".repeat(592) + bytes(1, 2, 3, 4, 5, 6, 7, 8));
        r.due(593, "cut", 593).refused(FULL, "feed", 0, 8).due(600, "feed", 0, 7);
        r.due(599, "cut", 599).refused(FULL, "feed", 0, 2).due(600, "feed", 9, 1).due(9, "tape", 599);
    }

    private static void asLongAsCanBe() {
        Due.sentence("each as long as can be");
        Run.duePieces("x".repeat(600), "W" + "x".repeat(600));
        Run.duePieces("a1a", "Wa", "N1", "Wa");
        Run.duePieces("<<1>>", "X<", "O<1>", "X>");
        Run.duePieces("</1></1>", "C</1>", "C</1>");
        new Run().book(" ".repeat(600), 1).due(1, "segment", 0, 2).due(0, "segment", 0, 3);
    }

    private static void words() {
        Due.sentence("a WORD: letters a .. z, A .. Z");
        Run.duePieces("azAZ", "WazAZ");
        Run.duePieces("`a{z@A[Z", "X`", "Wa", "X{", "Wz", "X@", "WA", "X[", "WZ");
        Run.duePieces("a" + bytes('a' + 128, 'Z' + 128), "Wa", "X" + bytes('a' + 128), "X" + bytes('Z' + 128));
    }

    private static void numbers() {
        Due.sentence("a NUMBER: 1 to 9 digits");
        Run.duePieces("0", "N0");
        Run.duePieces("9", "N9");
        Run.duePieces("/0:9/", "X/", "N0", "X:", "N9", "X/");
        Run.duePieces("12345678", "N12345678");
        Run.duePieces("123456789", "N123456789");
        Run.duePieces("000000000", "N000000000");
    }

    private static void digitsBehindThePoint() {
        Due.sentence("then perhaps the POINT of its TONGUE and 1 to 4 digits behind it");
        Run.duePieces("1.2", "N1.2");
        Run.duePieces("1.2345", "N1.2345");
        Run.duePieces("1.23456", "N1.2345", "N6");
        Run.duePieces("1.23456.7", "N1.2345", "N6.7");
        Run.duePieces("1.2.3", "N1.2", "X.", "N3");
        Run.duePieces("123456789.1234", "N123456789.1234");
        Run.duePieces("123456789.12345", "N123456789.1234", "N5");
        Run.duePieces(".2", "X.", "N2");
    }

    private static void pointWithNoDigit() {
        Due.sentence("A POINT with no digit behind it is none of the NUMBER");
        Run.duePieces("1.", "N1", "X.");
        Run.duePieces("1. ", "N1", "X.");
        Run.duePieces("1.a", "N1", "X.", "Wa");
        Run.duePieces("1..2", "N1", "X.", "X.", "N2");
        Run.duePieces("1.<2>", "N1", "X.", "O<2>");
        Run.duePieces("1./2", "N1", "X.", "X/", "N2");
        Run.duePieces("1.:2", "N1", "X.", "X:", "N2");
        Run.duePieces("123456789.", "N123456789", "X.");
        duePatched("1", "1,", "2.5", "2,5,");
        duePatched("1 3", "1,,3", "2 4", "2,,4");
    }

    private static void tenthDigit() {
        Due.sentence("a tenth digit begins a NUMBER more");
        Run.duePieces("1234567890", "N123456789", "N0");
        Run.duePieces("123456789123456789", "N123456789", "N123456789");
        Run.duePieces("1234567891234567890", "N123456789", "N123456789", "N0");
        Run.duePieces("1234567890.5", "N123456789", "N0.5");
        duePatched("123456789 0", "1234567890", "7 8", "78");
        duePatched("123456789 0.5", "1234567890,5", "7 8", "78");
        duePatched("1.2345 6", "1,23456", "7.5 8", "7,58");
        dueFails("123456789", "1234567890", "7");
    }

    private static void tongues() {
        Due.sentence("TONGUES: 0 that of BOOKS, its POINT is . (46), 1 that of renderings, its POINT is , (44).");
        Run.duePieces("1.2", "N1.2");
        Run.duePieces("1,2", "N1", "X,", "N2");
        Run.duePieces("1-2/3", "N1", "X-", "N2", "X/", "N3");
        duePatched("1.2", "1,2", "3.4", "3,4");
        dueFails("1.2", "1.2", "3.4");
        duePatched("1 2", "1.2", "3 4", "3.4");
        dueFails("1 2", "1,2", "3 4");
    }

    private static void marks() {
        Due.sentence("a MARK: &lt; d &gt; OPEN, &lt; / d &gt; CLOSE, &lt; d / &gt; SINGLE, d a digit");
        Run.duePieces("<0></0><0/>", "O<0>", "C</0>", "S<0/>");
        Run.duePieces("<9></9><9/>", "O<9>", "C</9>", "S<9/>");
        Run.duePieces("</>", "X<", "X/", "X>");
        Run.duePieces("<:>", "X<", "X:", "X>");
        Run.duePieces("<//>", "X<", "X/", "X/", "X>");
        Run.duePieces("</:>", "X<", "X/", "X:", "X>");
        Run.duePieces("<:/>", "X<", "X:", "X/", "X>");
        Run.duePieces("<a>", "X<", "Wa", "X>");
        Run.duePieces("<10>", "X<", "N10", "X>");
        Run.duePieces("</10>", "X<", "X/", "N10", "X>");
        Run.duePieces("<10/>", "X<", "N10", "X/", "X>");
        Run.duePieces("</1/>", "X<", "X/", "N1", "X/", "X>");
        Run.duePieces("< 1>", "X<", "N1", "X>");
        Run.duePieces("<1 >", "X<", "N1", "X>");
        Run.duePieces("</ 1>", "X<", "X/", "N1", "X>");
        Run.duePieces("<1=", "X<", "N1", "X=");
        Run.duePieces("<1;", "X<", "N1", "X;");
        Run.duePieces("</1;", "X<", "X/", "N1", "X;");
        Run.duePieces("<1.>", "X<", "N1", "X.", "X>");
    }

    private static void marksCutShort() {
        Due.sentence("a MARK: &lt; d &gt; OPEN, &lt; / d &gt; CLOSE, &lt; d / &gt; SINGLE, d a digit");
        Run.duePieces("<", "X<");
        Run.duePieces("<1", "X<", "N1");
        Run.duePieces("<1/", "X<", "N1", "X/");
        Run.duePieces("</", "X<", "X/");
        Run.duePieces("</1", "X<", "X/", "N1");
        Run.duePieces("a<1>", "Wa", "O<1>");
        Run.duePieces("a</1>", "Wa", "C</1>");
        Run.duePieces("a<1/>", "Wa", "S<1/>");
        // what an earlier, longer book had behind the end is not read
        new Run().book("x<1/>y", 1).book("x<1", 1).due(3, "segment", 0, 3).due(5, "piece", 0, 1, 0);
        new Run().write("x<1>").due(3, "cut", 3).due(1, "load").due(3, "segment", 0, 3);
        new Run().write("1.5").due(2, "cut", 2).due(1, "load").due(2, "segment", 0, 3);
    }

    private static void blanks() {
        Due.sentence("a BLANK: bytes 32");
        new Run().book("a   b  c d", 1).due(7, "segment", 0, 2).due(4, "segment", 0, 3);
        new Run().book(" a ", 1).due(3, "segment", 0, 2).due(1, "segment", 0, 3);
        Run.duePieces("a" + bytes(31, 33, 9, 10, 13, 160, 0) + "b", "Wa", "X" + bytes(31), "X!", "X\t", "X\n",
            "X\r", "X" + bytes(160), "X" + bytes(0), "Wb");
    }

    private static void signs() {
        Due.sentence("a SIGN: any other byte, alone.");
        Run.duePieces("--", "X-", "X-");
        Run.duePieces(bytes(0, 0, 1, 127, 128, 255, 255), "X" + bytes(0), "X" + bytes(0), "X" + bytes(1),
            "X" + bytes(127), "X" + bytes(128), "X" + bytes(255), "X" + bytes(255));
    }

    private static void alikeLetters() {
        Due.sentence("Letters are alike if they are so but for small and great.");
        dueLike(1, "azAZ mM", "AZaz Mm");
        dueLike(0, "a", "b");
        dueLike(0, "z", "y");
        dueLike(0, "@", "`");
        dueLike(0, "[", "{");
        dueLike(0, bytes(0xc9), bytes(0xe9));
        dueLike(0, "a", bytes('a' + 128));
        dueLike(0, "A", bytes('A' - 32));
        dueLike(0, "0", bytes('0' - 32));
    }

    private static void dueTorn(int want, String row) {
        new Run().book(row, 1).due(want, "segment", 0, 5);
        Run r = new Run().book("a", 1).write(row);
        if (want == 1) {
            r.refused(TORN, "keep", 0, 0);
        } else {
            r.due(0, "keep", 0, 0);
        }
    }

    private static void torn() {
        Due.sentence("a CLOSE closes the latest OPEN that is not closed, which must have its digit; none stays open.");
        dueTorn(0, "a");
        dueTorn(0, "   ");
        dueTorn(0, "<1></1>");
        dueTorn(0, "<0></0>");
        dueTorn(0, "<9></9>");
        dueTorn(1, "<1>");
        dueTorn(1, "</1>");
        dueTorn(1, "</1><1>");
        dueTorn(1, "<1></2>");
        dueTorn(1, "<1><2></1></2>");
        dueTorn(0, "<1><2></2></1>");
        dueTorn(0, "<1><1></1></1>");
        dueTorn(1, "<1><1></1>");
        dueTorn(1, "<1></1></1>");
        dueTorn(0, "<1></1><1></1>");
        dueTorn(0, "<1></1><2></2>");
        dueTorn(0, "<1/>");
        dueTorn(0, "<1><2/></1>");
        dueTorn(1, "<1><1/>");
        dueTorn(1, "<1/></1>");
        dueTorn(1, "<1> </1");
        dueTorn(0, "<1 </1");
        dueTorn(0, "<11>");
        dueTorn(0, "<1>".repeat(10) + "</1>".repeat(10));
        dueTorn(1, "<1>".repeat(11) + "</1>".repeat(9));
        dueTorn(1, "<1>".repeat(9) + "</1>".repeat(11));
        new Run().book("", 0).book("a", 1).due(0, "keep", 0, 0);
    }

    private static void deepTapes() {
        Due.sentence("none stays open");
        String deep = "<1>".repeat(85) + "</1>".repeat(85);
        new Run().book("a", 1).write(deep).due(0, "keep", 0, 0).dueRendered(0, 1, deep);
        new Run().book("a", 1).write("<1>".repeat(86) + "</1>".repeat(85)).refused(TORN, "keep", 0, 0);
        new Run().book("a", 1).write("<1>".repeat(200)).refused(TORN, "keep", 0, 0);
        new Run().book("a", 1).write("</1>".repeat(150)).refused(TORN, "keep", 0, 0);
    }

    private static void cutOnlyRows() {
        Due.sentence("A row is TORN if its MARKS do not close");
        Run r = new Run().book("<1>a. b</1>. c", 3).due(1, "segment", 0, 5).due(1, "segment", 1, 5);
        r.due(0, "segment", 2, 5).write("x").refused(TORN, "keep", 0, 0).refused(TORN, "keep", 1, 0);
        r.due(0, "keep", 2, 0);
    }

    private static void solidOnes() {
        Due.sentence("SOLID PIECES are all but BLANKS, numbered from 0 on.");
        Run r = new Run().book("  ab  7  ", 1).due(2, "piece", 0, 0, 1).due(6, "piece", 0, 1, 1);
        r.refused(NONE, "piece", 0, 2, 1).refused(NONE, "piece", 0, -1, 1);
    }

    private static void like() {
        Due.sentence("Two segments are LIKE if they have as many SOLID PIECES, and of each two in order: both WORDS, "
            + "with alike letters; both SIGNS, one byte; both NUMBERS; both MARKS, of one sort (OPEN, CLOSE, SINGLE).");
        dueLike(1, " ", "    ");
        dueLike(0, " ", "a");
        dueLike(1, "a b", "A  B ");
        dueLike(0, "a b", "a");
        dueLike(0, "a b", "b a");
        dueLike(0, "ab", "abc");
        dueLike(0, "ab", "a b");
        dueLike(1, "-", "-");
        dueLike(0, "-", "+");
        dueLike(1, "1", "999999999.9999");
        dueLike(0, "1", "1234567890");
        dueLike(0, "1", "a");
        dueLike(0, "1", "-");
        dueLike(0, "a", "-");
        dueLike(1, "<1></1>", "<9></9>");
        dueLike(1, "<1/>", "<9/>");
        dueLike(0, "<1/><1/>", "<1></1>");
        dueLike(0, "<1/>", "1");
        String words19 = "w ".repeat(19);
        dueLike(1, words19 + "x", words19 + "X");
        dueLike(0, words19 + "x", words19 + "y");
        dueLike(0, words19 + "x", words19);
    }

    private static void keepCosts() {
        Due.sentence("KEEP a PIECE (0: the same bytes, of NUMBERS and MARKS too)");
        dueSum(0, "a", "a");
        dueSum(0, "1.5", "1.5");
        dueSum(0, "<1/>", "<1/>");
        dueSum(0, "-", "-");
        dueSteps("a 1.5 <1/> -", "a 1.5 <1/> -", "k0/0 k1/1 k2/2 k3/3");
    }

    private static void changeCosts() {
        Due.sentence("CHANGE one to another one (WORDS with alike letters 1; NUMBERS, MARKS of one sort 2; others 10)");
        dueSum(1, "a", "A");
        dueSum(1, "azm", "AZM");
        dueSum(2, "1", "2");
        dueSum(2, "1", "1.0");
        dueSum(2, "1", "01");
        dueSum(2, "<1/>", "<2/>");
        dueSum(10, "a", "b");
        dueSum(10, "a", "ab");
        dueSum(10, "@", "`");
        dueSum(10, "-", "+");
        dueSum(10, "a", "1");
        dueSum(10, "1", "-");
        dueSum(10, "a", "<1/>");
        dueSteps("a 1 <1/> - b", "A 2 <2/> + 3", "c0/0 c1/1 c2/2 c3/3 c4/4");
        // OPEN to OPEN and CLOSE to CLOSE: two changes of 2 in ten pieces
        dueScore(96, "<1></1> a b c d e f g h", "<2></2> a b c d e f g h");
        // SINGLE to OPEN would be 10, to leave one out and to put one in is 4 each: 12 in ten pieces
        dueScore(88, "<1/> a b c d e f g h", "<1></1> a b c d e f g h");
    }

    private static void aloneCosts() {
        Due.sentence("LEAVE one OUT (a MARK 4, another one 10), PUT one IN (likewise).");
        String[] marks = {"<1/>"};
        String[] others = {"a", "1", "-"};
        for (String mark : marks) {
            dueSum(4, mark, " ");
            dueSum(4, " ", mark);
        }
        for (String other : others) {
            dueSum(10, other, " ");
            dueSum(10, " ", other);
        }
        // an OPEN and a CLOSE: 8 in ten pieces
        dueScore(92, "<1></1> a b c d e f g h", "a b c d e f g h");
        dueScore(92, "a b c d e f g h", "<1></1> a b c d e f g h");
    }

    private static void rowTold() {
        Due.sentence("at the first place where two such differ, has KEEP or CHANGE ahead of LEAVE OUT, "
            + "that ahead of PUT IN");
        dueSteps(" ", "  ", "");
        dueSteps("a b", "b a", "c0/0 c1/1");
        dueSteps("a a", "a", "k0/0 o1/-");
        dueSteps("a", "a a", "k0/0 i-/1");
        dueSteps("a b", "c", "c0/0 o1/-");
        dueSteps("a", "b c", "c0/0 i-/1");
        dueSteps("x a", "a y a", "c0/0 i-/1 k1/2");
        dueSteps("<1></1>", "<1/>", "o0/- o1/- i-/0");
        dueSteps("<1/>", "<1></1>", "o0/- i-/0 i-/1");
        dueSteps("<1/>a", "a<1/>", "o0/- k1/0 i-/1");
        dueSteps("a", " ", "o0/-");
        dueSteps(" ", "a", "i-/0");
        dueSteps("a b c d", "b c d e", "o0/- k1/0 k2/1 k3/2 i-/3");
    }

    private static void longestRows() {
        Due.sentence("STEPS from a row of SOLID PIECES to another one");
        StringBuilder out = new StringBuilder();
        for (int i = 0; i < 20; i++) {
            out.append("o").append(i).append("/- ");
        }
        StringBuilder in = new StringBuilder();
        for (int j = 0; j < 20; j++) {
            in.append(j == 0 ? "" : " ").append("i-/").append(j);
        }
        dueSteps("<1/>".repeat(20), "<1></1>".repeat(10), out.toString() + in);
        dueSteps("w ".repeat(20), " ", out.toString().trim());
        dueSteps(" ", "w ".repeat(20), in.toString());
        dueScore(20, "<1/>".repeat(20), "<1></1>".repeat(10));
        dueScore(0, "w ".repeat(20), " ");
    }

    private static void scores() {
        Due.sentence("SCORE: 100 less 10 D / n, cut, n the greater number of SOLID PIECES of both");
        dueScore(97, "a b c", "A b c");
        dueScore(94, "a b c", "A B c");
        dueScore(90, "a b c", "A B C");
        dueScore(67, "a b c", "a b");
        dueScore(67, "a b", "a b c");
        dueScore(34, "a b c", "a");
        dueScore(99, "a b c d e f", "A b c d e f");
        dueScore(100, "a b c d e f g h i j k", "A b c d e f g h i j k");
        Due.sentence("not below 0; 100 if both have none");
        dueScore(0, "a", "b");
        dueScore(0, "a", " ");
        dueScore(0, " ", "a");
        dueScore(60, "<1/>", " ");
        dueScore(60, " ", "<1/>");
        dueScore(100, " ", "   ");
        dueScore(0, "w ".repeat(20), "v ".repeat(20));
    }

    private static void patchedMarks() {
        Due.sentence("its MARKS have the digit to which theirs goes: the k-th MARK of the source goes to the k-th one "
            + "of the SEGMENT");
        duePatched("<1/>", "<1/>", "<2/>", "<2/>");
        duePatched("<0><9/></0>", "<9/><0></0>", "<9><0/></9>", "<0/><9></9>");
        duePatched("<1/> a <2/>", "<2/>b<1/><2/>", "<2/> a <1/>", "<1/>b<2/><1/>");
        duePatched("<1/>", "<1>x</1>", "<7/>", "<7>x</7>");
        duePatched("<1/>", "", "<7/>", "");
        duePatched("<1/><2/>", "<1/><2/>", "<3/><3/>", "<3/><3/>");
        Due.sentence("a digit of MARKS of the source goes to two");
        duePatched("<1/><1/>", "<1/>", "<2/><2/>", "<2/>");
        dueFails("<1/><1/>", "<1/>", "<2/><3/>");
        dueFails("<1/><1/>", "", "<1/><2/>");
        dueFails("<0/><0/>", "", "<0/><9/>");
        dueFails("<1></1>", "x", "<1></2>");
        dueFails("<1></1><1/>", "x", "<1></1><2/>");
        Due.sentence("a MARK of the RENDERING has a digit that the source has not");
        dueFails("<1/>", "<2/>", "<1/>");
        dueFails("<1/>", "<2/>", "<2/>");
        dueFails("a", "<1/>", "a");
        dueFails("<1/>", "<1/><0></0>", "<1/>");
    }

    private static void patchedNumbers() {
        Due.sentence("(the first such that did not serve yet; with the POINT of its TONGUE, else byte by byte)");
        duePatched("2 2", "2 2", "7 8", "7 8");
        duePatched("2 3 2", "3 2 2", "7 8 9", "8 7 9");
        duePatched("2.5", "2,5", "1", "1");
        duePatched("1", "1", "2.5", "2,5");
        dueFails("2.50", "2,5", "1");
        dueFails("2", "02", "1");
        dueFails("2.0", "2", "1");
        dueFails("2", "2,0", "1");
        duePatched("123456789.1234", "123456789,1234", "0", "0");
        Due.sentence("a NUMBER of the RENDERING reads the same as none");
        dueFails("1", "1 2", "1");
        dueFails("a", "1", "a");
        dueFails("1", "1 1", "5");
        dueFails("1 2", "2 2", "1 2");
        Due.sentence("or one of the source did not serve");
        dueFails("1", "", "1");
        dueFails("1 2", "1", "1 2");
        dueFails("1 1", "1", "1 1");
        String words19 = "w ".repeat(19);
        dueFails(words19 + "1", "", words19 + "1");
        duePatched(words19 + "1", "1", words19 + "2", "2");
    }

    private static void nothingElseIsChanged() {
        Due.sentence("Nothing else is changed.");
        String other = " <x " + bytes(0, 128, 255) + "</ <1 . , A  ";
        duePatched("1 1 <1/>", other.replace("1", "") + "1<1/>1", "2 2 <3/>", other.replace("1", "") + "2<3/>2");
        duePatched("a", "", "A", "");
        duePatched(" ", "  ", " ", "  ");
        duePatched("20 3", "3,x20", "4 5", "5,x4");
    }

    private static void likeOnly() {
        Due.sentence("PATCHED is the RENDERING (of now) of a PAIR for a SEGMENT that is LIKE its source");
        dueFails("a", "x", "b");
        dueFails("a", "x", "a b");
        dueFails("a 1", "1", "a b");
        Run r = patchRun("a 1", "x 1", "a 2").change(2, 0, "y 1").due(3, "patch", 0, 0).dueTape("y 2");
        r.due(0, "undo").due(3, "patch", 0, 0).dueTape("x 2");
    }

    public static void main(String[] args) {
        lastCalls();
        tape600();
        asLongAsCanBe();
        words();
        numbers();
        digitsBehindThePoint();
        pointWithNoDigit();
        tenthDigit();
        tongues();
        marks();
        marksCutShort();
        blanks();
        signs();
        alikeLetters();
        torn();
        deepTapes();
        cutOnlyRows();
        solidOnes();
        like();
        keepCosts();
        changeCosts();
        aloneCosts();
        rowTold();
        longestRows();
        scores();
        patchedMarks();
        patchedNumbers();
        nothingElseIsChanged();
        likeOnly();
        Due.end();
    }
}
