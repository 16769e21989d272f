/** The boundary cases of promises 9 to 19 and of THE MEMORY, a method for each sentence. */
public final class MemoryBoundariesTest {
    private static final int NONE = Due.NONE, BAD = Due.BAD, TORN = Due.TORN, STATE = Due.STATE, FULL = Due.FULL;
    private static final int LEAST = Integer.MIN_VALUE, MOST = Integer.MAX_VALUE;
    private static final int[] NO_SEGMENTS = {-1, 4, LEAST, MOST};
    private static final int[] NO_PAIRS = {-1, 2, 3, LEAST, MOST};
    private static final int[] NOBODIES = {-1, 100, LEAST, MOST};

    /** Segments 0, 1 and 3 are whole, 2 is TORN; pairs 0 and 1; pair 0 has two RENDERINGS. A third pair was undone. */
    private static Run filled() {
        Run r = new Run().except(1, "dr").term(0, "cat katze").forbid(1, "hund");
        r.book("The cat 1. dr. no <1>x</1>! <2> q. The cat 2.5", 4).keep(0, 0, "Die Katze 1.").keep(1, 1, "<1>x</1>");
        r.change(3, 0, "Katze 1.").keep(2, 3, "Hund").due(2, "undo").due(7, "differ", 0, 1);
        return r.write("tape 7");
    }

    /** A run with this many pairs and renderings, the later ones of pair 0; the tape has 'more' on it. */
    private static Run ofMany(int pairs, int renderings) {
        Run r = new Run().book("a. b <1/>. <2>", 3);
        for (int p = 0; p < pairs; p++) {
            r.due(p, "keep", p % 2, p);
        }
        for (int t = pairs + 1; t <= renderings; t++) {
            r.due(1, "feed", 'r', 1).due(t, "change", 0, t);
        }
        return r.write("more");
    }

    private static void keepRefused() {
        Due.sentence("NONE; BAD: who; TORN: the SEGMENT, or THE TAPE; FULL.");
        for (int s : NO_SEGMENTS) {
            filled().refused(NONE, "keep", s, 0).refused(NONE, "keep", s, 100);
            filled().write("<1>").refused(NONE, "keep", s, 0);
        }
        for (int who : NOBODIES) {
            filled().refused(BAD, "keep", 0, who).refused(BAD, "keep", 2, who);
            filled().write("</1>").refused(BAD, "keep", 0, who);
        }
        filled().refused(TORN, "keep", 2, 0).write("<1>").refused(TORN, "keep", 0, 0).refused(TORN, "keep", 2, 0);
        filled().write("<1></1>").refused(TORN, "keep", 2, 0).due(2, "keep", 0, 0);
        filled().write("").refused(TORN, "keep", 2, 0).due(2, "keep", 3, 0);
        new Run().refused(NONE, "keep", 0, 0).book("", 0).refused(NONE, "keep", 0, 0);
    }

    private static void keepWho() {
        Due.sentence("by somebody (0 .. 99): its number");
        filled().due(2, "keep", 0, 0).due(0, "pair", 2, 3).due(0, "about", 4);
        filled().due(2, "keep", 0, 99).due(99, "pair", 2, 3).due(4, "pair", 2, 4).due(4, "about", 3);
    }

    private static void pairs20() {
        Due.sentence("THE MEMORY has PAIRS, numbered from 0 on, 20 at most");
        Run r = ofMany(19, 19).due(19, "keep", 1, 19).due(20, "about", 1).due(20, "about", 2);
        r.due(4, "pair", 19, 1).write("x").refused(FULL, "keep", 0, 0).due(NONE, "pair", 20, 0);
        r.refused(TORN, "keep", 2, 0).refused(BAD, "keep", 0, 100).refused(NONE, "keep", 3, 0);
        r.write("<1>").refused(TORN, "keep", 0, 0);
        // the memory has room for RENDERINGS still, and for a PAIR when one is taken back
        r.change(21, 19, "x").due(19, "undo").due(19, "undo").due(19, "about", 1);
        r.write("new").due(19, "keep", 0, 5).dueRendered(19, -1, "a. ").dueRendered(19, 20, "new");
        r.refused(FULL, "keep", 0, 0);
    }

    private static void renderings40() {
        Due.sentence("RENDERINGS, one behind the other, 40 of all PAIRS together");
        Run r = ofMany(2, 39).due(40, "change", 1, 9).due(40, "about", 2).due(40, "about", 3).due(2, "about", 1);
        r.write("x").refused(FULL, "change", 1, 0).refused(FULL, "change", 0, 0).refused(FULL, "keep", 0, 0);
        r.refused(TORN, "keep", 2, 0).refused(BAD, "change", 0, 100).refused(NONE, "change", 2, 0);
        r.write("<1>").refused(TORN, "change", 0, 0).refused(TORN, "keep", 0, 0).write("x");
        r.due(1, "undo").due(2, "keep", 0, 3).due(40, "about", 2).due(40, "pair", 2, 4);
        r.write("y").refused(FULL, "change", 2, 0).due(2, "undo").due(40, "change", 0, 0);
        Run whole = ofMany(20, 40).refused(FULL, "keep", 0, 0).refused(FULL, "change", 0, 0);
        whole.due(0, "undo").refused(FULL, "keep", 0, 0).due(40, "change", 19, 0).due(20, "about", 1);
    }

    private static void longTexts() {
        Due.sentence("its number. NONE; BAD: who;");
        String book = "x".repeat(600);
        Run r = new Run().book(book, 1).keep(0, 0, "y".repeat(600)).dueRendered(0, -1, book);
        r.dueRendered(0, 1, "y".repeat(600)).due(600, "pair", 0, 0).due(600, "pair", 0, 1);
        r.change(2, 0, "").dueRendered(0, 2, "").due(0, "pair", 0, 1).due(0, "undo").due(600, "pair", 0, 1);
        r.book("z", 1).due('x', "rendered", 0, -1, 599).due(NONE, "rendered", 0, -1, 600);
    }

    private static void changeRefused() {
        Due.sentence("is a RENDERING more of a PAIR: TIME. NONE; BAD; TORN; FULL.");
        for (int pair : NO_PAIRS) {
            filled().refused(NONE, "change", pair, 0).refused(NONE, "change", pair, 100);
            filled().write("<1>").refused(NONE, "change", pair, 0);
        }
        for (int who : NOBODIES) {
            filled().refused(BAD, "change", 0, who).write("<1>").refused(BAD, "change", 1, who);
        }
        filled().write("<1>").refused(TORN, "change", 0, 0).refused(TORN, "change", 1, 99);
        filled().due(4, "change", 1, 0).due(0, "pair", 1, 3).due(4, "pair", 1, 4).due(0, "about", 4);
        filled().due(4, "change", 0, 99).due(99, "pair", 0, 3).due(6, "pair", 0, 1).due(3, "pair", 0, 2);
        filled().write("").due(4, "change", 1, 1).dueRendered(1, 4, "").due(NONE, "rendered", 1, 4, 0);
    }

    private static void undo() {
        Due.sentence("STATE: there is none.");
        new Run().refused(STATE, "undo").book("a", 1).refused(STATE, "undo").keep(0, 0, "x").due(0, "undo")
            .refused(STATE, "undo");
        Run r = filled().due(0, "undo").due(1, "undo").due(0, "undo").refused(STATE, "undo").refused(STATE, "undo");
        r.due(0, "about", 1).due(0, "about", 2).due(0, "about", 3).dueTape("tape 7");
        Due.sentence("(of a PAIR with no other one the PAIR, too; TIME goes back by 1): its PAIR.");
        r = filled().due(2, "about", 1).due(3, "about", 3).due(0, "undo").due(2, "about", 3).due(2, "about", 1);
        r.due(1, "pair", 0, 2).dueRendered(0, 2, "Die Katze 1.").due(1, "pair", 0, 4);
        r.due(1, "undo").due(1, "about", 3).due(1, "about", 1).refused(NONE, "pair", 1, 0);
        r.due(0, "undo").due(0, "about", 3).due(0, "about", 1).refused(NONE, "pair", 0, 0);
        r.due(0, "keep", 3, 8).due(1, "about", 3).dueRendered(0, 1, "tape 7").dueRendered(0, -1, "The cat 2.5");
    }

    private static void undoAll40() {
        Due.sentence("The latest RENDERING of all is taken back");
        Run r = ofMany(20, 40);
        for (int t = 40; t > 20; t--) {
            r.due(0, "undo").due(t - 1, "about", 3).due(20, "about", 1);
        }
        for (int p = 19; p >= 0; p--) {
            r.due(p, "undo").due(p, "about", 1).due(p, "about", 2);
        }
        r.refused(STATE, "undo");
    }

    private static void pair() {
        Due.sentence("3 by whom the latest one, 4 at which TIME. NONE.");
        Run r = filled();
        int[] want = {11, 8, 2, 0, 3};
        for (int what = 0; what < 5; what++) {
            r.due(want[what], "pair", 0, what);
        }
        r.refused(NONE, "pair", 0, 5).refused(NONE, "pair", 0, -1);
        r.refused(NONE, "pair", 0, LEAST).refused(NONE, "pair", 0, MOST);
        for (int pair : NO_PAIRS) {
            r.refused(NONE, "pair", pair, 0).refused(NONE, "pair", pair, 5);
        }
    }

    private static void rendered() {
        Due.sentence("NONE: none such, a TIME below -1 or above that of now.");
        Run r = filled();
        r.due('T', "rendered", 0, -1, 0).due(' ', "rendered", 0, -1, 10).refused(NONE, "rendered", 0, -1, 11);
        r.due('.', "rendered", 0, 1, 11).refused(NONE, "rendered", 0, 1, 12).refused(NONE, "rendered", 0, 1, -1);
        r.due('.', "rendered", 0, 3, 7).refused(NONE, "rendered", 0, 3, 8).refused(NONE, "rendered", 0, -1, -1);
        r.refused(NONE, "rendered", 0, 4, 0).refused(NONE, "rendered", 0, -2, 0);
        r.refused(NONE, "rendered", 0, LEAST, 0).refused(NONE, "rendered", 0, MOST, 0);
        r.refused(NONE, "rendered", 0, 3, LEAST).refused(NONE, "rendered", 0, 3, MOST);
        for (int pair : NO_PAIRS) {
            r.refused(NONE, "rendered", pair, -1, 0).refused(NONE, "rendered", pair, 3, 0);
        }
        Due.sentence("the latest that came at t or ahead of it (none: the PAIR was not there)");
        r.refused(NONE, "rendered", 0, 0, 0).refused(NONE, "rendered", 1, 0, 0).refused(NONE, "rendered", 1, 1, 0);
        r.dueRendered(0, 1, "Die Katze 1.").dueRendered(0, 2, "Die Katze 1.").dueRendered(0, 3, "Katze 1.");
        r.dueRendered(1, 2, "<1>x</1>").dueRendered(1, 3, "<1>x</1>").dueRendered(1, 1, "");
        Due.sentence("TIME is 0 at first, and 1 more with each RENDERING that comes");
        new Run().due(0, "about", 3).book("a", 1).due(0, "about", 3).keep(0, 0, "").due(1, "about", 3)
            .due(1, "pair", 0, 4).change(2, 0, "").due(2, "about", 3).due(2, "pair", 0, 4);
    }

    private static void refusedOfBoth(String name, boolean segmentFirst) {
        for (int s : NO_SEGMENTS) {
            filled().refused(NONE, name, segmentFirst ? s : 0, segmentFirst ? 0 : s);
            filled().refused(NONE, name, segmentFirst ? s : -1, segmentFirst ? -1 : s);
        }
        for (int pair : NO_PAIRS) {
            filled().refused(NONE, name, segmentFirst ? 0 : pair, segmentFirst ? pair : 0);
        }
        new Run().refused(NONE, name, 0, 0).book("a", 1).refused(NONE, name, 0, 0).keep(0, 0, "").book("", 0)
            .refused(NONE, name, 0, 0);
    }

    private static void likeAndScore() {
        Due.sentence("Whether a SEGMENT is LIKE the source of a PAIR: 1, 0. NONE.");
        refusedOfBoth("like", true);
        filled().due(1, "like", 0, 0).due(0, "like", 1, 0).due(0, "like", 3, 1);
        Due.sentence("SCORE of the source of a PAIR to a SEGMENT. NONE.");
        refusedOfBoth("score", true);
        filled().due(100, "score", 0, 0).due(100, "score", 1, 1);
        Due.sentence("(PAIRS that are not there now: NONE.)");
        for (String name : new String[] {"like", "score", "patch", "pair"}) {
            Run r = new Run().book("a", 1).keep(0, 0, "").keep(1, 0, "").due(1, "undo");
            if (name.equals("pair")) {
                r.refused(NONE, name, 1, 0).refused(NONE, "faults", 1).refused(NONE, "spread", 1);
                r.refused(NONE, "rendered", 1, 1, 0).refused(NONE, "differ", 1, 0).refused(NONE, "change", 1, 0);
            } else {
                r.refused(NONE, name, 0, 1);
            }
        }
    }

    private static void found() {
        Due.sentence("BAD: least not 0 .. 100.");
        Run r = new Run().book("a b c d. a b c e. a b x y. q r s t", 4).keep(0, 0, "").keep(1, 1, "").keep(2, 2, "");
        for (int least : new int[] {-1, 101, LEAST, MOST}) {
            r.refused(BAD, "found", 0, least, 0).refused(BAD, "found", 3, least, 0);
        }
        Due.sentence("The i-th PAIR, from 0 on, that is FOUND. NONE;");
        r.due(0, "found", 0, 0, 0).due(1, "found", 0, 0, 1).due(2, "found", 0, 0, 2).refused(NONE, "found", 0, 0, 3);
        r.due(0, "found", 0, 100, 0).refused(NONE, "found", 0, 100, 1);
        r.refused(NONE, "found", 0, 0, -1).refused(NONE, "found", 0, 0, LEAST).refused(NONE, "found", 0, 0, MOST);
        r.refused(NONE, "found", 3, 100, 0);
        for (int s : NO_SEGMENTS) {
            r.refused(NONE, "found", s, 0, 0).refused(NONE, "found", s, 101, 0).refused(NONE, "found", s, -1, 0);
        }
        r.refused(NONE, "found", 0, 101, -1).refused(NONE, "found", 0, -1, LEAST).refused(BAD, "found", 0, 101, 3);
        new Run().book("a", 1).refused(NONE, "found", 0, 0, 0).refused(BAD, "found", 0, 101, 0);
    }

    private static void foundScores() {
        Due.sentence("the PAIRS that are there now of which the source has that SCORE or more to the SEGMENT, by SCORES "
            + "from the greatest on, of alike ones the one with the latest RENDERING first");
        // with the . that follows there are five pieces: one changed word is 80, two are 60
        Run r = new Run().book("a b x y. a b c e. a b c d. a b c f. q", 5);
        r.keep(0, 0, "").keep(1, 1, "").keep(2, 3, "").due(60, "score", 2, 0).due(80, "score", 2, 1);
        r.due(2, "found", 2, 80, 0).due(1, "found", 2, 80, 1).refused(NONE, "found", 2, 80, 2);
        r.refused(NONE, "found", 2, 81, 0).due(2, "found", 2, 61, 0).refused(NONE, "found", 2, 61, 2);
        r.due(0, "found", 2, 60, 2).refused(NONE, "found", 2, 60, 3);
        r.change(4, 1, "").due(1, "found", 2, 80, 0).due(2, "found", 2, 80, 1).due(0, "found", 2, 0, 2);
        r.change(5, 0, "").due(1, "found", 2, 0, 0).due(0, "found", 2, 0, 2);
        r.due(0, "undo").due(1, "undo").due(2, "found", 2, 80, 0).due(2, "undo").due(1, "found", 2, 80, 0);
        r.refused(NONE, "found", 2, 80, 1);
        // nothing like it: SCORE 0 is FOUND from least 0 on alone
        r.due(0, "score", 4, 0).due(1, "found", 4, 0, 0).due(0, "found", 4, 0, 1).refused(NONE, "found", 4, 1, 0);
    }

    private static void found20() {
        Due.sentence("of alike ones the one with the latest RENDERING first");
        Run r = new Run().book("a", 1);
        for (int p = 0; p < 20; p++) {
            r.due(p, "keep", 0, 0);
        }
        for (int i = 0; i < 20; i++) {
            r.due(19 - i, "found", 0, 100, i);
        }
        r.refused(NONE, "found", 0, 100, 20).due(21, "change", 0, 0).due(0, "found", 0, 0, 0);
        r.due(19, "found", 0, 0, 1).due(1, "found", 0, 0, 19).refused(NONE, "found", 0, 0, 20);
    }

    private static void differ() {
        Due.sentence("STEPS from the source of a PAIR to a SEGMENT: how many (KEEPS, too). NONE.");
        refusedOfBoth("differ", false);
        String steps = "c0/0 c1/1 c2/2 i-/3 c3/4 i-/5 i-/6";
        Run r = filled().dueSteps(steps).refused(NONE, "differ", 2, 0).dueSteps(steps);
        r.due(4, "differ", 0, 0).dueSteps("k0/0 k1/1 k2/2 k3/3");
        new Run().book(" ", 1).keep(0, 0, "").due(0, "differ", 0, 0).refused(NONE, "step", 0, 0);
        // the STEPS of a longer one are gone
        r.book(" ", 1).keep(2, 0, "").due(0, "differ", 2, 0).refused(NONE, "step", 0, 0);
    }

    private static void step() {
        Due.sentence("1 the PIECE of the source (NONE: PUT IN), 2 that of the SEGMENT (NONE: LEAVE OUT). NONE.");
        new Run().refused(NONE, "step", 0, 0).refused(NONE, "step", 0, 1).refused(NONE, "step", -1, 0);
        Run r = new Run().book("a b c. c d", 2).keep(0, 0, "").refused(NONE, "step", 0, 0).book("x c. d", 2);
        r.due(4, "differ", 0, 0).dueSteps("c0/0 o1/- k2/1 k3/2");
        r.due(3, "step", 3, 1).due(NONE, "step", 1, 2).due(1, "step", 1, 1).due(2, "step", 1, 0);
        r.refused(NONE, "step", 4, 0).refused(NONE, "step", -1, 0).refused(NONE, "step", 0, 3);
        r.refused(NONE, "step", 0, -1);
        for (int far : new int[] {LEAST, MOST}) {
            r.refused(NONE, "step", far, 0).refused(NONE, "step", 0, far);
            r.refused(NONE, "step", far, far);
        }
        Due.sentence("Of STEP i of the latest differ()");
        r.refused(NONE, "differ", 1, 0).refused(NONE, "differ", 0, 2).dueSteps("c0/0 o1/- k2/1 k3/2");
        r.due(50, "score", 0, 0).answer("score", 1, 0);
        r.dueSteps("c0/0 o1/- k2/1 k3/2").due(0, "undo").book("", 0).dueSteps("c0/0 o1/- k2/1 k3/2");
    }

    private static void steps40() {
        Due.sentence("STEPS from the source of a PAIR to a SEGMENT: how many (KEEPS, too).");
        Run r = new Run().book("<1/>".repeat(20), 1).keep(0, 0, "").book("<1></1>".repeat(10), 1);
        r.due(40, "differ", 0, 0).due(2, "step", 0, 0).due(19, "step", 19, 1).due(NONE, "step", 19, 2);
        r.due(3, "step", 20, 0).due(NONE, "step", 20, 1).due(0, "step", 20, 2).due(19, "step", 39, 2);
        r.refused(NONE, "step", 40, 0).due(20, "score", 0, 0).due(0, "like", 0, 0);
    }

    private static void patchRefused() {
        Due.sentence("THE TAPE is PATCHED: how many bytes it has. NONE; STATE: the SEGMENT is not LIKE the source, or "
            + "it FAILS; FULL: more than 600.");
        refusedOfBoth("patch", true);
        filled().refused(STATE, "patch", 1, 0).due(8, "patch", 0, 0).dueTape("Katze 1.");
        // segment 3 is not LIKE the source of pair 0, which has a . more
        filled().refused(STATE, "patch", 3, 0);
        String x598 = "x".repeat(598);
        Run r = new Run().book("a 1", 1).keep(0, 0, "1" + x598).book("a 10", 1).write("old");
        r.due(600, "patch", 0, 0).dueTape("10" + x598).due(599, "pair", 0, 1).due(NONE, "tape", 600);
        r.write("old").book("a 100", 1).write("old").refused(FULL, "patch", 0, 0).book("a 1.5", 1).write("old");
        r.refused(FULL, "patch", 0, 0);
        // it FAILS at its end, behind the 600th byte
        r = new Run().book("1", 1).keep(0, 0, "1" + x598 + "2").book("111111111", 1).write("old");
        r.refused(STATE, "patch", 0, 0);
        r = new Run().book("1 2", 1).keep(0, 0, "1" + x598).book("111111111 2", 1).write("old");
        r.refused(STATE, "patch", 0, 0);
        r = new Run().book("1", 1).keep(0, 0, "1" + "x".repeat(595) + "<1/>").book("111111111", 1).write("old");
        r.refused(STATE, "patch", 0, 0);
    }

    private static void patchLongest() {
        Due.sentence("FULL: more than 600.");
        String ones = "1 ".repeat(20);
        String longs = "123456789.1234 ".repeat(20);
        Run r = new Run().book(ones, 1).keep(0, 0, ones + "x".repeat(300)).book(longs, 1).write("old");
        r.due(600, "patch", 0, 0).dueTape(longs.replace('.', ',') + "x".repeat(300));
        r.change(2, 0, ones + "x".repeat(301)).write("old").refused(FULL, "patch", 0, 0);
        r.change(3, 0, "x".repeat(560) + ones).write("old").refused(FULL, "patch", 0, 0);
        r = new Run().book(longs, 1).keep(0, 0, longs.replace('.', ',')).book(ones, 1).write("old");
        r.due(40, "patch", 0, 0).dueTape(ones);
        String marks = "<1/>".repeat(150);
        r = new Run().book("<1/>", 1).keep(0, 0, marks).book("<2/>", 1).due(600, "patch", 0, 0);
        r.dueTape(marks.replace('1', '2'));
        // the NUMBERS of a RENDERING are many more than a SEGMENT can have
        r = new Run().book(ones, 1).keep(0, 0, "1 ".repeat(300)).refused(STATE, "patch", 0, 0);
    }

    /** What was told once must not be told again of another book, another source or another row. */
    private static void toldAnew() {
        Due.sentence("SCORE of the source of a PAIR to a SEGMENT.");
        Run r = new Run().book("a b. c d", 2).keep(0, 0, "").due(100, "score", 0, 0).due(0, "score", 1, 0);
        r.book("c d. a b.", 2).due(34, "score", 0, 0).due(100, "score", 1, 0).due(0, "found", 1, 100, 0);
        r.keep(1, 0, "").due(100, "score", 0, 1).due(34, "score", 1, 1).due(1, "counted", 0);
        r.due(1, "undo").due(4, "counted", 0).keep(1, 1, "").due(34, "score", 0, 1).due(100, "score", 1, 1);
        r.due(1, "found", 1, 100, 0).due(4, "counted", 0).due(1, "counted", 1);
        // a book that is refused leaves the SEGMENTS, and so their SCORES
        r.write("!".repeat(21)).refused(FULL, "load").due(100, "score", 1, 0);
        Due.sentence("THE TAPE is PATCHED: how many bytes it has.");
        r = new Run().book("a 1. b", 2).keep(0, 0, "x 1").keep(1, 1, "u v 7 <1/> 9").write("1 2 3 4 <2/>");
        r.due(3, "patch", 0, 0).dueTape("x 1").due(STATE, "patch", 1, 1).due(3, "patch", 0, 0).dueTape("x 1");
    }

    private static void readsChangeNothing() {
        Due.sentence("Nothing is promised beyond the answers and state changes described above");
        Run r = filled();
        String before = r.all();
        r.answer("tape", 0);
        r.answer("segment", 2, 5);
        r.answer("piece", 1, 3, 0);
        r.answer("pair", 0, 1);
        r.answer("rendered", 0, 1, 0);
        r.answer("like", 3, 0);
        r.answer("score", 3, 0);
        r.answer("found", 3, 0, 1);
        r.answer("step", 1, 1);
        r.answer("faults", 1);
        r.answer("counted", 3);
        r.answer("count", 4, 1);
        r.answer("spread", 0);
        r.answer("about", 3);
        Due.text("what stands behind calls that read", r.all(), before);
    }

    public static void main(String[] args) {
        keepRefused();
        keepWho();
        pairs20();
        renderings40();
        longTexts();
        changeRefused();
        undo();
        undoAll40();
        pair();
        rendered();
        likeAndScore();
        found();
        foundScores();
        found20();
        differ();
        step();
        steps40();
        patchRefused();
        patchLongest();
        toldAnew();
        readsChangeNothing();
        Due.end();
    }
}
