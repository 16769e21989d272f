/** For each promise of the document: ordinary inputs, the edges that it names, and wrong inputs. */
public final class PromisesTest {
    private static final int NONE = -1, BAD = -2, TORN = -3, STATE = -4, FULL = -5;
    private static int wrong = 0;

    private static void due(String what, long got, long want) {
        if (got != want) {
            wrong++;
            System.out.println(what + " answered " + got + ", due is " + want);
        }
    }

    private static void dueText(String what, String got, String want) {
        if (!got.equals(want)) {
            wrong++;
            System.out.println(what + " is '" + got + "', due is '" + want + "'");
        }
    }

    /** Puts a text on the tape in the place of what is there. */
    private static KeptSentences write(KeptSentences x, String text) {
        x.cut(0);
        int at = 0;
        while (at < text.length()) {
            int n = Math.min(8, text.length() - at);
            long w = 0;
            for (int i = 0; i < n; i++) {
                w = w << 8 | text.charAt(at + i) & 255;
            }
            due("feed of '" + text + "'", x.feed(w, n), at + n);
            at += n;
        }
        return x;
    }

    private static String tapeOf(KeptSentences x) {
        StringBuilder b = new StringBuilder();
        for (int i = 0; x.tape(i) >= 0; i++) {
            b.append((char) x.tape(i));
        }
        return b.toString();
    }

    private static String renderedOf(KeptSentences x, int pair, int time) {
        StringBuilder b = new StringBuilder();
        for (int i = 0; x.rendered(pair, time, i) >= 0; i++) {
            b.append((char) x.rendered(pair, time, i));
        }
        return b.toString();
    }

    private static KeptSentences book(String text) {
        return book(new KeptSentences(), text);
    }

    private static KeptSentences book(KeptSentences x, String text) {
        write(x, text).load();
        return x;
    }

    private static int keep(KeptSentences x, int s, String rendering, int who) {
        return write(x, rendering).keep(s, who);
    }

    private static int change(KeptSentences x, int pair, String rendering, int who) {
        return write(x, rendering).change(pair, who);
    }

    private static int forbid(KeptSentences x, String word) {
        return write(x, word).forbid();
    }

    private static int term(KeptSentences x, String text) {
        return write(x, text).term();
    }

    private static int except(KeptSentences x, String word) {
        return write(x, word).except();
    }

    private static String repeated(String s, int n) {
        return s.repeat(n);
    }

    /** The kinds of the solid pieces of segment s, a letter each, and the bytes of each behind it. */
    private static String piecesOf(KeptSentences x, String text, int s) {
        StringBuilder b = new StringBuilder();
        for (int i = 0; i < x.segment(s, 3); i++) {
            int begin = x.piece(s, i, 1);
            b.append(i == 0 ? "" : "|").append("WNOCSX".charAt(x.piece(s, i, 0)));
            b.append(text, begin, begin + x.piece(s, i, 2));
        }
        return b.toString();
    }

    private static void duePieces(String text, String want) {
        dueText("the pieces of '" + text + "'", piecesOf(book(text), text, 0), want);
    }

    private static void dueSegments(KeptSentences x, String text, String... want) {
        due("load of '" + text + "'", write(x, text).load(), want.length);
        for (int s = 0; s < want.length; s++) {
            int begin = x.segment(s, 0);
            dueText("segment " + s, text.substring(begin, begin + x.segment(s, 1)), want[s]);
        }
    }

    private static void promise1() {
        KeptSentences x = new KeptSentences();
        for (int what = 0; what < 8; what++) {
            due("1: about " + what, x.about(what), 0);
        }
        due("1: tape", x.tape(0), NONE);
        due("1: segment", x.segment(0, 0), NONE);
        due("1: pair", x.pair(0, 0), NONE);
        due("1: step", x.step(0, 0), NONE);
        due("1: undo", x.undo(), STATE);
        due("1: load", x.load(), 0);
    }

    private static void promise2() {
        KeptSentences x = new KeptSentences();
        due("2: n 0", x.feed(1, 0), BAD);
        due("2: n 9", x.feed(1, 9), BAD);
        due("2: n -1", x.feed(1, -1), BAD);
        due("2: two", x.feed(0x616263L, 2), 2);
        dueText("2: the highest first", tapeOf(x), "bc");
        due("2: eight", x.feed(0xff00000000000080L, 8), 10);
        due("2: highest", x.tape(2), 255);
        due("2: zero", x.tape(3), 0);
        due("2: lowest", x.tape(9), 128);
        write(x, repeated("abcdefgh", 74));
        due("2: 599", x.feed(0, 7), 599);
        due("2: full", x.feed(0, 2), FULL);
        due("2: bad ahead of full", x.feed(0, 9), BAD);
        due("2: 600", x.feed(7, 1), 600);
        due("2: full at 600", x.feed(0, 1), FULL);
        due("2: the last byte", x.tape(599), 7);
        due("2: nothing changed", x.about(4), 600);
    }

    private static void promise3() {
        KeptSentences x = write(new KeptSentences(), "abc");
        due("3: above", x.cut(4), BAD);
        due("3: below", x.cut(-1), BAD);
        due("3: all", x.cut(3), 3);
        due("3: two", x.cut(2), 2);
        dueText("3: kept", tapeOf(x), "ab");
        due("3: gone", x.cut(3), BAD);
        due("3: none", x.cut(0), 0);
        due("3: empty", x.about(4), 0);
    }

    private static void promise4() {
        KeptSentences x = write(new KeptSentences(), "a" + (char) 255);
        due("4: 0", x.tape(0), 'a');
        due("4: 1", x.tape(1), 255);
        due("4: 2", x.tape(2), NONE);
        due("4: -1", x.tape(-1), NONE);
        due("4: least", x.tape(Integer.MIN_VALUE), NONE);
    }

    private static void promise5() {
        KeptSentences x = new KeptSentences();
        due("5: empty", x.except(), BAD);
        for (String bad : new String[] {"abcdefghi", "a1", "a b", " a", "a ", "a.", "{", "@", "[", "`"}) {
            due("5: " + bad, except(x, bad), BAD);
            dueText("5: tape stays", tapeOf(x), bad);
        }
        due("5: eight letters", except(x, "abcdefgH"), 1);
        due("5: tape is empty then", x.about(4), 0);
        dueSegments(x, "Z. abcdEFGH. b", "Z. ", "abcdEFGH. b");
        due("5: one letter", except(x, "z"), 2);
        due("5: the book stays", x.about(0), 2);
        dueSegments(x, "Z. abcdEFGH. b", "Z. abcdEFGH. b");
        for (int i = 3; i <= 8; i++) {
            due("5: more", except(x, "w"), i);
        }
        due("5: full", except(x, "w"), FULL);
        dueText("5: full leaves the tape", tapeOf(x), "w");
        due("5: bad ahead of full", except(x, "1"), BAD);
        due("5: about", x.about(5), 8);
    }

    private static void promise6() {
        KeptSentences x = new KeptSentences();
        dueSegments(x, "A b. C! D?  E", "A b. ", "C! ", "D?  ", "E");
        due("6: tape is empty then", x.about(4), 0);
        dueSegments(x, "  a. b", "  a. ", "b");
        dueSegments(x, "   ", "   ");
        dueSegments(x, "a.", "a.");
        dueSegments(x, "a. ", "a. ");
        dueSegments(x, "a.) b... c?! 3.5. 4. d", "a.) b... ", "c?! ", "3.5. ", "4. ", "d");
        dueSegments(x, ". . .x", ". ", ". ", ".x");
        dueSegments(x, "a.\nb", "a.\nb");
        dueSegments(x, "a.<1> b", "a.<1> b");
        except(x, "no");
        dueSegments(x, "no. No! nO? xno. n o. no . 1no. <1>NO. e. no.",
            "no. No! ", "nO? ", "xno. ", "n o. ", "no . ", "1no. <1>NO. e. ", "no.");
        dueSegments(x, "no.. a", "no.. ", "a");
        due("6: empty", x.load(), 0);
        due("6: empty book", x.about(0), 0);
        due("6: 24", write(x, repeated("a. ", 24)).load(), 24);
        due("6: 25", write(x, repeated("a. ", 25)).load(), FULL);
        due("6: full leaves the tape", x.about(4), 75);
        due("6: full leaves the book", x.about(0), 24);
        due("6: 24 and a rest", write(x, repeated("a. ", 24) + "b").load(), FULL);
        due("6: 20 solid ones", write(x, repeated("- ", 19) + ". " + repeated("a ", 20)).load(), 2);
        due("6: 20 of them", x.segment(1, 3), 20);
        due("6: 40 pieces", x.segment(1, 2), 40);
        due("6: 21 solid ones", write(x, "b. " + repeated("a ", 21)).load(), FULL);
        due("6: 21 with the stop", write(x, repeated("a ", 20) + ". b").load(), FULL);
        due("6: the old segments stay", x.segment(1, 3), 20);
        due("6: 600 bytes", write(x, repeated("abcdefg ", 15) + repeated("x", 480)).load(), 1);
        due("6: the word's length", x.piece(0, 15, 2), 480);
    }

    private static void promise7() {
        KeptSentences x = book(" Ab <1>c</1>, 2.5. <2> d1e </2>! <1>x</2>. </1>. <1><2></1></2>. <3/> q");
        int[][] want = {{0, 19, 11, 7, 2, 0}, {19, 14, 9, 6, 2, 0}, {33, 10, 5, 4, 1, 1},
            {43, 6, 3, 2, 0, 1}, {49, 16, 6, 5, 0, 1}, {65, 6, 3, 2, 1, 0}};
        due("7: segments", x.about(0), want.length);
        for (int s = 0; s < want.length; s++) {
            for (int what = 0; what < 6; what++) {
                due("7: segment(" + s + ", " + what + ")", x.segment(s, what), want[s][what]);
            }
        }
        due("7: what 6", x.segment(0, 6), NONE);
        due("7: what -1", x.segment(0, -1), NONE);
        due("7: s -1", x.segment(-1, 0), NONE);
        due("7: s 6", x.segment(6, 0), NONE);
        due("7: stays open", book("<1>a").segment(0, 5), 1);
        due("7: one closed of two", book("<1><1>a</1>").segment(0, 5), 1);
        due("7: inside one another", book("<1><1><2/></1></1><1></1>").segment(0, 5), 0);
    }

    private static void promise8() {
        KeptSentences x = book("ab, 3. <1/> c");
        due("8: kind", x.piece(0, 2, 0), 1);
        due("8: begin", x.piece(1, 1, 1), 12);
        due("8: length", x.piece(1, 0, 2), 4);
        due("8: what 3", x.piece(0, 0, 3), NONE);
        due("8: what -1", x.piece(0, 0, -1), NONE);
        due("8: i 4", x.piece(0, 4, 0), NONE);
        due("8: i -1", x.piece(0, -1, 0), NONE);
        due("8: s 2", x.piece(2, 0, 0), NONE);
        due("8: s -1", x.piece(-1, 0, 0), NONE);
        duePieces("aZ9", "WaZ|N9");
        duePieces("3.5,4", "N3.5|X,|N4");
        duePieces("3.x", "N3|X.|Wx");
        duePieces("1.2.3", "N1.2|X.|N3");
        duePieces("123456789", "N123456789");
        duePieces("1234567890.5", "N123456789|N0.5");
        duePieces("123456789.12345", "N123456789.1234|N5");
        duePieces("1.12345.6", "N1.1234|N5.6");
        duePieces(".5", "X.|N5");
        duePieces("<1></2><3/>", "O<1>|C</2>|S<3/>");
        duePieces("<12>", "X<|N12|X>");
        duePieces("<1", "X<|N1");
        duePieces("</1", "X<|X/|N1");
        duePieces("<1/", "X<|N1|X/");
        duePieces("</1/>", "X<|X/|N1|X/|X>");
        duePieces("<a>", "X<|Wa|X>");
        duePieces("<<1>>", "X<|O<1>|X>");
        duePieces("<>", "X<|X>");
        duePieces("@[`{/:", "X@|X[|X`|X{|X/|X:");
        duePieces("--" + (char) 0 + (char) 255, "X-|X-|X" + (char) 0 + "|X" + (char) 255);
        duePieces("a\tb", "Wa|X\t|Wb");
    }

    private static void promise9() {
        KeptSentences x = book("One <1>two</1>. three. <1>. four");
        due("9: no segment", keep(x, 4, "a", 0), NONE);
        due("9: s -1", x.keep(-1, 0), NONE);
        due("9: none ahead of bad", x.keep(4, 100), NONE);
        due("9: who 100", x.keep(0, 100), BAD);
        due("9: who -1", x.keep(0, -1), BAD);
        due("9: bad ahead of torn", x.keep(2, 100), BAD);
        due("9: segment torn", x.keep(2, 0), TORN);
        dueText("9: tape stays", tapeOf(x), "a");
        due("9: tape torn", keep(x, 0, "</1>", 0), TORN);
        due("9: tape torn", keep(x, 0, "<1>", 0), TORN);
        due("9: tape torn", keep(x, 0, "<1><2></1></2>", 0), TORN);
        due("9: nothing kept", x.about(1), 0);
        due("9: who 99", keep(x, 0, "Ein <1>zwei</1>.", 99), 0);
        due("9: tape is empty then", x.about(4), 0);
        dueText("9: the source has its blank", renderedOf(x, 0, -1), "One <1>two</1>. ");
        dueText("9: the rendering", renderedOf(x, 0, 1), "Ein <1>zwei</1>.");
        due("9: an empty rendering", x.keep(0, 0), 1);
        for (int p = 2; p < 20; p++) {
            due("9: more", keep(x, 1, "w" + p, 5), p);
        }
        due("9: full", keep(x, 1, "w", 5), FULL);
        dueText("9: full leaves the tape", tapeOf(x), "w");
        due("9: torn ahead of full", x.keep(2, 5), TORN);
        due("9: pairs", x.about(1), 20);
        due("9: long nests", keep(book("a"), 0, repeated("<1>", 85) + repeated("</1>", 85), 0), 0);
        due("9: long open ones", keep(book("a"), 0, repeated("<1>", 200), 0), TORN);
        KeptSentences y = book("a. b");
        keep(y, 0, "x", 0);
        for (int r = 2; r <= 40; r++) {
            due("9: 40 renderings", change(y, 0, "x", 0), r);
        }
        due("9: full of renderings", keep(y, 1, "y", 0), FULL);
        due("9: no pair more", y.about(1), 1);
    }

    private static void promise10() {
        KeptSentences x = book("One. two");
        due("10: none yet", change(x, 0, "a", 0), NONE);
        keep(x, 0, "eins", 1);
        due("10: time", change(x, 0, "Eins", 2), 2);
        due("10: tape is empty then", x.about(4), 0);
        dueText("10: the rendering now", renderedOf(x, 0, 2), "Eins");
        due("10: none ahead of bad", change(x, 1, "<1>", 100), NONE);
        due("10: pair -1", x.change(-1, 0), NONE);
        due("10: bad ahead of torn", x.change(0, 100), BAD);
        due("10: who -1", x.change(0, -1), BAD);
        due("10: torn", x.change(0, 0), TORN);
        dueText("10: tape stays", tapeOf(x), "<1>");
        for (int t = 3; t <= 40; t++) {
            due("10: more", change(x, 0, "E" + t, t), t);
        }
        due("10: full", change(x, 0, "E", 0), FULL);
        due("10: torn ahead of full", change(x, 0, "</1>", 0), TORN);
        due("10: 40", x.about(2), 40);
        due("10: undone", x.undo(), 0);
        due("10: again", change(x, 0, "neu", 0), 40);
        dueText("10: anew", renderedOf(x, 0, 40), "neu");
    }

    private static void promise11() {
        KeptSentences x = book("One. two");
        due("11: none", x.undo(), STATE);
        keep(x, 0, "eins", 1);
        keep(x, 1, "zwei", 2);
        change(x, 0, "Eins!", 3);
        write(x, "stays");
        due("11: of a change", x.undo(), 0);
        dueText("11: tape stays", tapeOf(x), "stays");
        dueText("11: the one before", renderedOf(x, 0, 2), "eins");
        due("11: time back", x.about(3), 2);
        due("11: later times are gone", x.rendered(0, 3, 0), NONE);
        due("11: who", x.pair(0, 3), 1);
        due("11: of a pair", x.undo(), 1);
        due("11: the pair is gone", x.pair(1, 0), NONE);
        due("11: the first stays", x.pair(0, 0), 5);
        due("11: its number comes again", keep(x, 0, "un", 4), 1);
        dueText("11: with its source", renderedOf(x, 1, -1), "One. ");
        due("11: score of the new one", x.score(0, 1), 100);
        x.undo();
        due("11: the last", x.undo(), 0);
        due("11: none more", x.undo(), STATE);
        due("11: time 0", x.about(3), 0);
    }

    private static void promise12() {
        KeptSentences x = book("One. two");
        keep(x, 0, "eins", 11);
        keep(x, 1, "", 22);
        change(x, 0, "Eins!", 33);
        int[][] want = {{5, 5, 2, 33, 3}, {3, 0, 1, 22, 2}};
        for (int p = 0; p < 2; p++) {
            for (int what = 0; what < 5; what++) {
                due("12: pair(" + p + ", " + what + ")", x.pair(p, what), want[p][what]);
            }
        }
        due("12: what 5", x.pair(0, 5), NONE);
        due("12: what -1", x.pair(0, -1), NONE);
        due("12: pair 2", x.pair(2, 0), NONE);
        due("12: pair -1", x.pair(-1, 0), NONE);
        book(x, "other");
        due("12: another book changes no pair", x.pair(0, 0), 5);
    }

    private static void promise13() {
        KeptSentences x = book("One. tw" + (char) 250);
        keep(x, 0, "eins", 1);
        keep(x, 1, "zw" + (char) 200, 2);
        change(x, 0, "Uno", 3);
        String[] first = {"", "eins", "eins", "Uno"};
        String[] second = {"", "", "zw" + (char) 200, "zw" + (char) 200};
        for (int t = 0; t < 4; t++) {
            dueText("13: pair 0 at " + t, renderedOf(x, 0, t), first[t]);
            dueText("13: pair 1 at " + t, renderedOf(x, 1, t), second[t]);
        }
        dueText("13: the source", renderedOf(x, 1, -1), "tw" + (char) 250);
        due("13: time 4", x.rendered(0, 4, 0), NONE);
        due("13: time -2", x.rendered(0, -2, 0), NONE);
        due("13: i -1", x.rendered(0, 1, -1), NONE);
        due("13: i 4", x.rendered(0, 1, 4), NONE);
        due("13: pair 2", x.rendered(2, 1, 0), NONE);
        due("13: pair -1", x.rendered(-1, -1, 0), NONE);
        book(x, "Other words. here");
        dueText("13: the source stays", renderedOf(x, 0, -1), "One. ");
    }

    /** Whether two texts are like, with the second one as the source of a pair. */
    private static int like(String a, String b) {
        KeptSentences x = book(b);
        keep(x, 0, "", 0);
        book(x, a);
        return x.like(0, 0);
    }

    private static void promise14() {
        due("14: the same", like("a b", "a b"), 1);
        due("14: letters", like("A bC", "a  Bc"), 1);
        due("14: other letters", like("a b", "a c"), 0);
        due("14: longer word", like("ab", "abc"), 0);
        due("14: more", like("a b", "a"), 0);
        due("14: more on the right", like("a", "a ,"), 0);
        due("14: numbers", like("1 2.5", "1000 3"), 1);
        due("14: a number and a word", like("1", "a"), 0);
        due("14: signs", like("a-", "a-"), 1);
        due("14: other signs", like("a-", "a+"), 0);
        due("14: signs that differ by bit 32", like("@", "`"), 0);
        due("14: marks of one sort", like("<1></2><2/>", "<3></3><5/>"), 1);
        due("14: marks of other sorts", like("<1/>", "<1></1>"), 0);
        due("14: open and single", like("<1></1>", "<1/><1/>"), 0);
        due("14: blanks", like("<1> <2/></1>", "<1><2/> </1>"), 1);
        due("14: both have none", like("  ", " "), 1);
        KeptSentences x = book("a");
        due("14: no pair", x.like(0, 0), NONE);
        x.keep(0, 0);
        due("14: s", x.like(1, 0), NONE);
        due("14: s -1", x.like(-1, 0), NONE);
        due("14: pair -1", x.like(0, -1), NONE);
        due("14: there", x.like(0, 0), 1);
    }

    private static int score(String a, String b) {
        KeptSentences x = book(b);
        keep(x, 0, "", 0);
        book(x, a);
        return x.score(0, 0);
    }

    private static void promise15() {
        due("15: same", score("a b c", "a b c"), 100);
        due("15: both none", score(" ", "  "), 100);
        due("15: one has none", score(" ", "a b"), 0);
        due("15: a letter", score("a b c", "A b c"), 97);
        due("15: a word of three", score("a b d", "a b c"), 67);
        due("15: a word less", score("a b", "a b c"), 67);
        due("15: a word more", score("a b c", "b c"), 67);
        due("15: number", score("1 b c", "2 b c"), 94);
        due("15: number that reads so but for its bytes", score("1.0 b c", "1 b c"), 94);
        due("15: mark", score("<1/> b c", "<2/> b c"), 94);
        due("15: a mark less", score("b c", "<2/> b c"), 87);
        due("15: a mark more", score("b <1/> c", "b c"), 87);
        due("15: marks of two sorts: out and in is 8, not 10", score("<1/> b c", "<1></1> b c"), 70);
        due("15: sign to sign", score("a -", "a +"), 50);
        due("15: word to mark", score("a", "<1/>"), 0);
        due("15: all others", score("a b c", "d e f"), 0);
        due("15: shifted", score("x a b c d e f g h i", "a b c d e f g h i y"), 80);
        KeptSentences x = book("a");
        due("15: no pair", x.score(0, 0), NONE);
        x.keep(0, 0);
        due("15: s 1", x.score(1, 0), NONE);
        due("15: s -1", x.score(-1, 0), NONE);
        due("15: pair -1", x.score(0, -1), NONE);
        due("15: there", x.score(0, 0), 100);
        book(x, "b");
        due("15: another book", x.score(0, 0), 0);
    }

    private static void promise16() {
        KeptSentences x = book("a b c d. a b c e. a b x y. q r s t");
        keep(x, 2, "", 0);
        keep(x, 1, "", 0);
        keep(x, 0, "", 0);
        keep(x, 1, "", 0);
        int[] order = {2, 3, 1, 0};
        for (int i = 0; i < 4; i++) {
            due("16: found " + i, x.found(0, 0, i), order[i]);
        }
        due("16: no more", x.found(0, 0, 4), NONE);
        change(x, 1, "", 0);
        due("16: the latest rendering first", x.found(0, 0, 1), 1);
        due("16: then the other one", x.found(0, 0, 2), 3);
        x.undo();
        due("16: undone", x.found(0, 0, 1), 3);
        due("16: least 80", x.score(0, 1), 80);
        due("16: just so much", x.found(0, 80, 2), 1);
        due("16: one more", x.found(0, 81, 1), NONE);
        due("16: 100", x.found(0, 100, 0), 2);
        due("16: least 101", x.found(0, 101, 0), BAD);
        due("16: least -1", x.found(0, -1, 0), BAD);
        due("16: i -1", x.found(0, 0, -1), NONE);
        due("16: none ahead of bad", x.found(4, 101, 0), NONE);
        due("16: s -1", x.found(-1, 0, 0), NONE);
        due("16: far ones are below 25", x.found(3, 25, 0), NONE);
    }

    /** The steps from a to b: k, c, o, i with the pieces' numbers. */
    private static String steps(String a, String b) {
        KeptSentences x = book(a);
        keep(x, 0, "", 0);
        book(x, b);
        int n = x.differ(0, 0);
        return stepsTold(x, n);
    }

    private static String stepsTold(KeptSentences x, int n) {
        StringBuilder told = new StringBuilder();
        for (int i = 0; i < n; i++) {
            told.append(i == 0 ? "" : " ").append("kcoi".charAt(x.step(i, 0)));
            told.append(x.step(i, 1)).append('/').append(x.step(i, 2));
        }
        due("18: behind the last step", x.step(n, 0), NONE);
        return told.toString();
    }

    private static void promise17() {
        KeptSentences x = book("a b c. a d c e. ");
        due("17: no pair", x.differ(0, 0), NONE);
        keep(x, 0, "", 0);
        due("17: how many", x.differ(0, 1), 5);
        due("17: keeps, too", x.differ(0, 0), 4);
        due("17: s 2", x.differ(0, 2), NONE);
        due("17: s -1", x.differ(0, -1), NONE);
        due("17: pair -1", x.differ(-1, 0), NONE);
        dueText("17: the latest stays", stepsTold(x, 4), "k0/0 k1/1 k2/2 k3/3");
        dueText("17: none", steps(" ", "  "), "");
        String words = "a b c d e f g h i j k l m n o p q r s t";
        dueText("17: all are put in", steps(" ", "a b"), "i-1/0 i-1/1");
        KeptSentences y = book(repeated("<1/>", 20));
        keep(y, 0, "", 0);
        book(y, repeated("<1></1>", 10));
        due("17: forty steps", y.differ(0, 0), 40);
        due("17: the last", y.step(39, 2), 19);
        due("17: one ahead", y.step(39, 1), NONE);
        due("17: twenty words", book(words).segment(0, 3), 20);
    }

    private static void promise18() {
        dueText("18: keep", steps("a 1 <1/> ,", "a 1 <1/> ,"), "k0/0 k1/1 k2/2 k3/3");
        dueText("18: change", steps("a 1 <1/> , x", "A 2 <2/> ; y"), "c0/0 c1/1 c2/2 c3/3 c4/4");
        dueText("18: leave out", steps("a b c", "a c"), "k0/0 o1/-1 k2/1");
        dueText("18: put in", steps("a c", "a b c"), "k0/0 i-1/1 k1/2");
        dueText("18: change ahead of leave out", steps("a b", "c"), "c0/0 o1/-1");
        dueText("18: change ahead of put in", steps("a", "b c"), "c0/0 i-1/1");
        dueText("18: keep the first of two", steps("a a", "a"), "k0/0 o1/-1");
        dueText("18: leave out ahead of put in", steps("<1></1>", "<1/>"), "o0/-1 o1/-1 i-1/0");
        dueText("18: a mark less", steps("x <1/> y", "x y"), "k0/0 o1/-1 k2/1");
        dueText("18: shifted", steps("a b c d", "b c d e"), "o0/-1 k1/0 k2/1 k3/2 i-1/3");
        KeptSentences x = book("a. b");
        due("18: none yet", x.step(0, 0), NONE);
        x.keep(0, 0);
        x.differ(0, 1);
        due("18: what 3", x.step(0, 3), NONE);
        due("18: what -1", x.step(0, -1), NONE);
        due("18: i -1", x.step(-1, 0), NONE);
        x.score(0, 0);
        x.undo();
        book(x, "other");
        dueText("18: of the latest differ still", stepsTold(x, 2), "c0/0 o1/-1");
    }

    /** What patch answers and leaves on the tape, which had the word 'old' on it. */
    private static String patched(String source, String rendering, String segment) {
        KeptSentences x = book(source);
        due("19: kept", keep(x, 0, rendering, 0), 0);
        book(x, segment);
        write(x, "old");
        int answer = x.patch(0, 0);
        String tape = tapeOf(x);
        if (answer >= 0) {
            due("19: length", answer, tape.length());
            return tape;
        }
        dueText("19: tape stays", tape, "old");
        return "" + answer;
    }

    private static void promise19() {
        String state = "" + STATE;
        dueText("19: nothing to patch", patched("a b", "x  y", "A B"), "x  y");
        dueText("19: empty", patched("a b", "", "a b"), "");
        dueText("19: number", patched("a 3.5 b", "x3,5y", "a 17.25 b"), "x17,25y");
        dueText("19: number without a point", patched("a 3", "3.", "a 4.5"), "4,5.");
        dueText("19: byte by byte", patched("3.50", "3,5", "4"), state);
        dueText("19: of other bytes", patched("03", "3", "4"), state);
        dueText("19: the tongue's point", patched("3.5", "3.5", "4"), state);
        dueText("19: two numbers out of two", patched("3 5", "5.3", "7 8"), "8.7");
        dueText("19: in another order", patched("1 2 3", "3 1 2", "4 5 6"), "6 4 5");
        dueText("19: the first that did not serve", patched("2 and 2", "2 2", "7 and 8"), "7 8");
        dueText("19: a number too many", patched("2", "2 2", "7"), state);
        dueText("19: a number of none", patched("2", "2 3", "7"), state);
        dueText("19: one did not serve", patched("2 3", "2", "7 8"), state);
        dueText("19: number where none is", patched("a", "1", "a"), state);
        dueText("19: marks", patched("<1>a</1> <2/>", "<2/><1>x</1>", "<5>a</5> <6/>"), "<6/><5>x</5>");
        dueText("19: marks left away", patched("<1>a</1>", "x", "<2>a</2>"), "x");
        dueText("19: marks twice", patched("<1/>a", "<1/><1/><1>q</1>", "<9/>a"), "<9/><9/><9>q</9>");
        dueText("19: two to one", patched("<1/><2/>", "<2/><1/>", "<3/><3/>"), "<3/><3/>");
        dueText("19: swapped", patched("<1/><2/>", "<1/><2/>", "<2/><1/>"), "<2/><1/>");
        dueText("19: one to two", patched("<1/><1/>", "<1/>", "<2/><3/>"), state);
        dueText("19: one to two, unused", patched("<1>a</1>", "x", "<2>a</3>"), state);
        dueText("19: one to two among sorts", patched("<1>a</1><1/>", "x", "<1>a</1><2/>"), state);
        dueText("19: a digit of none", patched("<1/>", "<2/>", "<1/>"), state);
        dueText("19: not like", patched("a b", "x", "a c"), state);
        dueText("19: other signs stay", patched("<1/> 2", "<1> 2 </1>" + (char) 233, "<3/> 4"),
            "<3> 4 </3>" + (char) 233);
        String long597 = repeated("x", 597);
        dueText("19: 600", patched("1", "1" + long597, "1.1"), "1,1" + long597);
        dueText("19: 601", patched("1", "x1" + long597, "1.1"), "" + FULL);
        dueText("19: state ahead of full", patched("1", "1" + long597 + "2", "111111111"), state);
        dueText("19: very long", patched("1 1 1", "1 1 1" + repeated("x", 595),
            "999999999.1234 999999999.1234 1"), "" + FULL);
        KeptSentences x = book("a 1. b");
        due("19: no pair", x.patch(0, 0), NONE);
        keep(x, 0, "x 1", 0);
        due("19: s 2", x.patch(2, 0), NONE);
        due("19: s -1", x.patch(-1, 0), NONE);
        due("19: pair -1", x.patch(0, -1), NONE);
        change(x, 0, "y 1", 0);
        due("19: of now", x.patch(0, 0), 3);
        dueText("19: of now", tapeOf(x), "y 1");
        x.undo();
        x.patch(0, 0);
        dueText("19: of now, behind undo", tapeOf(x), "x 1");
    }

    private static void promise20() {
        KeptSentences x = new KeptSentences();
        for (String bad : new String[] {"", " ", "a", "a ", " a", "a  b", "a b ", " a b", "a b c",
            "abcdefghi b", "a abcdefghi", "a1 b", "a b1", "a-b"}) {
            due("20: " + bad, term(x, bad), BAD);
            dueText("20: tape stays", tapeOf(x), bad);
        }
        due("20: 600 letters", term(x, repeated("a", 600)), BAD);
        due("21: 600 letters", x.forbid(), BAD);
        due("5: 600 letters", x.except(), BAD);
        due("20: eight letters", term(x, "abcdefgh ABCDEFGH"), 0);
        due("20: tape is empty then", x.about(4), 0);
        for (int t = 1; t < 10; t++) {
            due("20: more", term(x, "a b"), t);
        }
        due("20: full", term(x, "a b"), FULL);
        dueText("20: full leaves the tape", tapeOf(x), "a b");
        due("20: bad ahead of full", term(x, "a"), BAD);
        due("20: about", x.about(6), 10);
    }

    private static void promise21() {
        KeptSentences x = new KeptSentences();
        for (String bad : new String[] {"", "abcdefghi", "a b", "1", "a."}) {
            due("21: " + bad, forbid(x, bad), BAD);
            dueText("21: tape stays", tapeOf(x), bad);
        }
        due("21: eight letters", forbid(x, "ABCDefgh"), 1);
        due("21: tape is empty then", x.about(4), 0);
        for (int f = 2; f <= 5; f++) {
            due("21: more", forbid(x, "b"), f);
        }
        due("21: full", forbid(x, "b"), FULL);
        dueText("21: full leaves the tape", tapeOf(x), "b");
        due("21: bad ahead of full", forbid(x, "?"), BAD);
        due("21: about", x.about(7), 5);
    }

    private static void promise22() {
        KeptSentences x = book("Cat and cat, catfish. dog");
        due("22: no pair", x.faults(0), NONE);
        keep(x, 0, "Katze und KATZE, hund", 0);
        due("22: neither", x.faults(0), 200);
        due("22: pair 1", x.faults(1), NONE);
        due("22: pair -1", x.faults(-1), NONE);
        term(x, "cAt kAtze");
        due("22: held, just as often", x.faults(0), 200);
        forbid(x, "kat");
        due("22: a part of a word is none", x.faults(0), 200);
        forbid(x, "HUND");
        due("22: forbidden", x.faults(0), 101);
        forbid(x, "und");
        due("22: the first by numbers", x.faults(0), 101);
        term(x, "none nichts");
        due("22: none on both sides is held", x.faults(0), 101);
        term(x, "and y");
        due("22: not held goes ahead", x.faults(0), 2);
        term(x, "dog und");
        due("22: the first one", x.faults(0), 2);
        change(x, 0, "y katze katze", 0);
        due("22: of now", x.faults(0), 200);
        change(x, 0, "y katze", 0);
        due("22: too seldom", x.faults(0), 0);
        change(x, 0, "y katze katze katze", 0);
        due("22: too often", x.faults(0), 0);
        change(x, 0, "y katze katze und", 0);
        due("22: where the source has none", x.faults(0), 3);
        keep(x, 1, "und kat", 0);
        due("22: the other pair", x.faults(1), 100);
    }

    private static void promise23() {
        KeptSentences x = book("a b c d. a b c e. A b c d. q r s t. a b x y. a b 1 d. a b 2 d");
        int[] none = {4, 4, 0, 4, 4, 4, 4};
        for (int s = 0; s < none.length; s++) {
            due("23: without a pair " + s, x.counted(s), none[s]);
        }
        keep(x, 0, "", 0);
        int[] want = {1, 2, 0, 4, 3, 2, 3};
        due("23: score 60", x.score(4, 0), 60);
        due("23: score of the last", x.score(6, 0), 60);
        for (int s = 0; s < want.length; s++) {
            due("23: counted " + s, x.counted(s), want[s]);
        }
        keep(x, 5, "", 0);
        due("23: known by the second pair", x.counted(5), 1);
        due("23: the greatest score of all", x.counted(6), 2);
        x.undo();
        due("23: undone", x.counted(5), 2);
        due("23: s 7", x.counted(7), NONE);
        due("23: s -1", x.counted(-1), NONE);
        KeptSentences y = book("a b c d");
        keep(y, 0, "", 0);
        book(y, "a b c x");
        due("23: 75", y.counted(0), 2);
        book(y, "a b x y");
        due("23: 50", y.counted(0), 3);
        book(y, "a b C e f g h i");
        due("23: less than 50", y.counted(0), 4);
        book(y, "a b x Y. A B X y.");
        due("23: again goes ahead", y.counted(1), 0);
        book(y, "A B C D");
        due("23: known", y.counted(0), 1);
        book(x, "A b c D. a b c d.");
        due("23: known, with its stop", x.counted(0), 1);
        due("23: again ahead of known", x.counted(1), 0);
    }

    private static void promise24() {
        KeptSentences x = book("a b c d. a b c 1. A b c d. q <1/> s t u. a b x y.");
        keep(x, 0, "", 0);
        int[] segments = {1, 1, 1, 1, 1};
        int[] words = {4, 4, 3, 4, 4};
        for (int kind = 0; kind < 5; kind++) {
            due("24: segments " + kind, x.count(kind, 0), segments[kind]);
            due("24: words " + kind, x.count(kind, 1), words[kind]);
        }
        due("24: kind 5", x.count(5, 0), NONE);
        due("24: kind -1", x.count(-1, 0), NONE);
        due("24: words 2", x.count(0, 2), BAD);
        due("24: words -1", x.count(0, -1), BAD);
        due("24: none ahead of bad", x.count(5, 2), NONE);
        book(x, "z. y. z.");
        due("24: two are new", x.count(4, 0), 2);
        due("24: of a word each", x.count(4, 1), 2);
        due("24: an empty book", book(x, "").count(4, 0), 0);
    }

    private static void promise25() {
        KeptSentences x = book("a 1. A  2.5. b 1. a 7. a");
        due("25: no pair", x.spread(0), NONE);
        keep(x, 1, "", 0);
        due("25: three", x.spread(0), 3);
        due("25: pair -1", x.spread(-1), NONE);
        due("25: pair 1", x.spread(1), NONE);
        book(x, "b");
        due("25: none", x.spread(0), 0);
    }

    private static void promise26() {
        KeptSentences x = book("a. b. c");
        keep(x, 0, "x", 0);
        keep(x, 1, "y", 0);
        change(x, 0, "z", 0);
        except(x, "a");
        except(x, "b");
        except(x, "c");
        except(x, "d");
        for (int t = 0; t < 5; t++) {
            term(x, "a b");
        }
        forbid(x, "q");
        write(x, "sixsix");
        int[] want = {3, 2, 3, 3, 6, 4, 5, 1};
        for (int what = 0; what < 8; what++) {
            due("26: about " + what, x.about(what), want[what]);
        }
        due("26: 8", x.about(8), NONE);
        due("26: -1", x.about(-1), NONE);
    }

    /** What a longer book, an undone pair or a fuller list left behind must not be seen again. */
    private static void nothingLeftBehind() {
        KeptSentences x = book("a b. c d. a b. q");
        keep(x, 0, "", 0);
        keep(x, 1, "", 0);
        due("15: of the second pair", x.score(0, 1), 34);
        x.undo();
        due("16: undone pairs are not found", x.found(1, 50, 0), NONE);
        due("23: undone pairs are not known", x.counted(1), 4);
        keep(x, 2, "", 0);
        due("15: of another source", x.score(0, 1), 100);
        due("16: of another source", x.found(0, 100, 0), 1);
        x.undo();
        due("16: only the one that stays", x.found(0, 0, 0), 0);
        due("16: and no other", x.found(0, 0, 1), NONE);
        due("25: two", x.spread(0), 2);
        book(x, "a b. e");
        due("25: one in the shorter book", x.spread(0), 1);
        due("24: none again in it", x.count(0, 0), 0);
        due("24: one known in it", x.count(1, 0), 1);
    }

    private static void fullLists() {
        KeptSentences x = book(repeated("a. ", 24));
        for (int p = 0; p < 20; p++) {
            keep(x, p, "longwords " + p, p);
        }
        due("25: 24", x.spread(19), 24);
        due("24: 23 again", x.count(0, 0), 23);
        due("16: the first of 20", x.found(23, 100, 0), 19);
        due("16: the last of 20", x.found(23, 100, 19), 0);
        due("16: behind the last", x.found(23, 100, 20), NONE);
        for (int t = 0; t < 10; t++) {
            due("22: long words are no term's", x.faults(0), 200);
            term(x, "q r");
        }
        for (int f = 0; f < 5; f++) {
            due("22: long words are not forbidden", x.faults(0), 200);
            forbid(x, "s");
        }
        due("22: all lists are full", x.faults(0), 200);
        change(x, 0, "r s s", 0);
        due("22: a term goes ahead", x.faults(0), 0);
        change(x, 0, "s", 0);
        due("22: the first of five", x.faults(0), 100);
        change(x, 0, repeated("-", 600), 0);
        due("22: 600 signs", x.faults(0), 200);
        due("19: 600 signs", x.patch(0, 0), 600);
        String words19 = repeated("w ", 19);
        dueText("19: 20 pieces", patched(words19 + "9", "9", words19 + "8.5"), "8,5");
        dueText("19: 20 pieces, none served", patched(words19 + "9", "", words19 + "8"), "" + STATE);
        dueText("19: 20 pieces, one too many", patched(words19 + "9", "8 9", words19 + "8"), "" + STATE);
        dueText("19: 20 pieces without a number", patched(words19 + "w", "8", words19 + "w"), "" + STATE);
        dueText("19: the digits 0 and 9", patched("<0><9/></0>", "<9/><0></0>", "<9><0/></9>"), "<0/><9></9>");
        due("14: what stands behind a word", like("a 1", "a1"), 1);
        due("14: what stands behind a sign", like("- 1", "-1"), 1);
        due("14: 20 pieces", like(words19 + "w", words19 + "W"), 1);
        due("15: 20 pieces", score(words19 + "w", words19 + "W"), 100);
    }

    public static void main(String[] args) {
        promise1();
        promise2();
        promise3();
        promise4();
        promise5();
        promise6();
        promise7();
        promise8();
        promise9();
        promise10();
        promise11();
        promise12();
        promise13();
        promise14();
        promise15();
        promise16();
        promise17();
        promise18();
        promise19();
        promise20();
        promise21();
        promise22();
        promise23();
        promise24();
        promise25();
        promise26();
        nothingLeftBehind();
        fullLists();
        System.out.println(wrong == 0 ? "all promises hold" : wrong + " answers are not as due");
        if (wrong != 0) {
            System.exit(1);
        }
    }
}
