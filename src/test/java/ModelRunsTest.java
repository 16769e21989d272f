import java.util.ArrayList;
import java.util.HashMap;
import java.util.List;
import java.util.Map;
import java.util.Random;
import java.util.regex.Matcher;
import java.util.regex.Pattern;

/** Runs of calls from fixed seeds; each answer must be that of a second program, written another way. */
public final class ModelRunsTest {
    private static final int NONE = -1, BAD = -2, TORN = -3, STATE = -4, FULL = -5;
    private static final int RUNS = 3000;
    private static final int CALLS = 500;

    private record Piece(char kind, int at, String text) {
        boolean mark() {
            return "ocs".indexOf(kind) >= 0;
        }

        String digit() {
            return text.replaceAll("[^0-9]", "");
        }
    }

    private record Rendering(int pair, String text, int who) { }

    /** A row of steps, as letters (k, c, o, i), and its sum. */
    private record Way(int sum, String letters) { }

    /** The plain program: texts are Strings of characters 0 to 255, and nothing is kept that can be worked out. */
    private static final class Model {
        String tape = "";
        String book = "";
        List<int[]> segments = new ArrayList<>();
        List<String> sources = new ArrayList<>();
        List<Rendering> renderings = new ArrayList<>();
        List<String> exceptions = new ArrayList<>();
        List<String[]> terms = new ArrayList<>();
        List<String> forbidden = new ArrayList<>();
        String told = "";

        static List<Piece> pieces(String row, char point) {
            Pattern p = Pattern.compile("(?<w>[a-zA-Z]+)|(?<n>[0-9]{1,9}(?:\\" + point + "[0-9]{1,4})?)"
                + "|(?<o><[0-9]>)|(?<c></[0-9]>)|(?<s><[0-9]/>)|(?<b> +)|(?<x>.)", Pattern.DOTALL);
            Matcher m = p.matcher(row);
            List<Piece> list = new ArrayList<>();
            while (m.find()) {
                for (char kind : "wnocsbx".toCharArray()) {
                    if (m.group(String.valueOf(kind)) != null) {
                        list.add(new Piece(kind, m.start(), m.group()));
                    }
                }
            }
            return list;
        }

        static List<Piece> solid(String row, char point) {
            List<Piece> list = pieces(row, point);
            list.removeIf(p -> p.kind == 'b');
            return list;
        }

        static boolean torn(String row) {
            StringBuilder marks = new StringBuilder();
            for (Piece p : pieces(row, '.')) {
                if (p.kind == 'o' || p.kind == 'c') {
                    marks.append(p.text);
                }
            }
            String rest = marks.toString();
            for (String before = ""; !before.equals(rest);) {
                before = rest;
                rest = rest.replaceAll("<([0-9])></\\1>", "");
            }
            return !rest.isEmpty();
        }

        static boolean like(String a, String b) {
            return shape(a).equals(shape(b));
        }

        static String shape(String row) {
            StringBuilder s = new StringBuilder();
            for (Piece p : solid(row, '.')) {
                s.append(p.kind).append(p.kind == 'w' ? p.text.toLowerCase() : p.kind == 'x' ? p.text : "").append('|');
            }
            return s.toString();
        }

        static int cost(Piece p) {
            return p.mark() ? 4 : 10;
        }

        static int cost(Piece p, Piece q) {
            if (p.text.equals(q.text)) {
                return 0;
            }
            if (p.text.equalsIgnoreCase(q.text) && p.kind == 'w') {
                return 1;
            }
            return p.kind == q.kind && (p.mark() || p.kind == 'n') ? 2 : 10;
        }

        static Way way(List<Piece> a, List<Piece> b, int i, int j, Map<Integer, Way> seen) {
            if (i == a.size() && j == b.size()) {
                return new Way(0, "");
            }
            Way best = seen.get(i * 100 + j);
            if (best != null) {
                return best;
            }
            // the ways in the order in which the document prefers them: a later one must be less to win
            if (i < a.size() && j < b.size()) {
                Way rest = way(a, b, i + 1, j + 1, seen);
                int c = cost(a.get(i), b.get(j));
                best = new Way(rest.sum + c, (c == 0 ? "k" : "c") + rest.letters);
            }
            if (i < a.size()) {
                Way rest = way(a, b, i + 1, j, seen);
                if (best == null || rest.sum + cost(a.get(i)) < best.sum) {
                    best = new Way(rest.sum + cost(a.get(i)), "o" + rest.letters);
                }
            }
            if (j < b.size()) {
                Way rest = way(a, b, i, j + 1, seen);
                if (best == null || rest.sum + cost(b.get(j)) < best.sum) {
                    best = new Way(rest.sum + cost(b.get(j)), "i" + rest.letters);
                }
            }
            seen.put(i * 100 + j, best);
            return best;
        }

        static Way way(String a, String b) {
            return way(solid(a, '.'), solid(b, '.'), 0, 0, new HashMap<>());
        }

        static int score(String a, String b) {
            int n = Math.max(solid(a, '.').size(), solid(b, '.').size());
            return n == 0 ? 100 : Math.max(0, 100 - 10 * way(a, b).sum / n);
        }

        String text(int s) {
            return book.substring(segments.get(s)[0], segments.get(s)[1]);
        }

        boolean noSegment(int s) {
            return s < 0 || s >= segments.size();
        }

        boolean noPair(int p) {
            return p < 0 || p >= sources.size();
        }

        Rendering at(int pair, int time) {
            Rendering r = null;
            for (int t = 1; t <= time && t <= renderings.size(); t++) {
                if (renderings.get(t - 1).pair == pair) {
                    r = renderings.get(t - 1);
                }
            }
            return r;
        }

        int timeOf(int pair) {
            return renderings.lastIndexOf(at(pair, renderings.size())) + 1;
        }

        String now(int pair) {
            return at(pair, renderings.size()).text;
        }

        int feed(long w, int n) {
            if (n < 1 || n > 8) {
                return BAD;
            }
            if (tape.length() + n > 600) {
                return FULL;
            }
            String more = "";
            for (int i = 0; i < n; i++) {
                more = (char) (w & 255) + more;
                w >>= 8;
            }
            tape += more;
            return tape.length();
        }

        int cut(int n) {
            if (n < 0 || n > tape.length()) {
                return BAD;
            }
            tape = tape.substring(0, n);
            return n;
        }

        static int byteOf(String s, int i) {
            return i < 0 || i >= s.length() ? NONE : s.charAt(i);
        }

        int addWord(List<String> list, int most) {
            if (!tape.matches("[a-zA-Z]{1,8}")) {
                return BAD;
            }
            if (list.size() == most) {
                return FULL;
            }
            list.add(tape.toLowerCase());
            tape = "";
            return list.size();
        }

        int load() {
            List<int[]> cut = new ArrayList<>();
            List<Piece> all = pieces(tape, '.');
            int begin = 0;
            for (int i = 0; i < all.size(); i++) {
                Piece p = all.get(i);
                int end = p.at + p.text.length();
                boolean last = i == all.size() - 1;
                boolean stop = ".!?".contains(p.text)
                    && !(p.text.equals(".") && i > 0 && all.get(i - 1).kind == 'w'
                        && exceptions.contains(all.get(i - 1).text.toLowerCase()));
                boolean blankBehindStop = p.kind == 'b' && i > 0 && ".!?".contains(all.get(i - 1).text)
                    && !(all.get(i - 1).text.equals(".") && i > 1 && all.get(i - 2).kind == 'w'
                        && exceptions.contains(all.get(i - 2).text.toLowerCase()));
                if (last || blankBehindStop || stop && last) {
                    cut.add(new int[] {begin, end});
                    begin = end;
                }
            }
            boolean full = cut.size() > 24;
            for (int[] c : cut) {
                full |= solid(tape.substring(c[0], c[1]), '.').size() > 20;
            }
            if (full) {
                return FULL;
            }
            book = tape;
            segments = cut;
            tape = "";
            return cut.size();
        }

        int segment(int s, int what) {
            if (noSegment(s) || what < 0 || what > 5) {
                return NONE;
            }
            List<Piece> all = pieces(text(s), '.');
            return new int[] {segments.get(s)[0], text(s).length(), all.size(), solid(text(s), '.').size(),
                (int) all.stream().filter(p -> p.kind == 'w').count(), torn(text(s)) ? 1 : 0}[what];
        }

        int piece(int s, int i, int what) {
            if (noSegment(s) || i < 0 || i >= solid(text(s), '.').size() || what < 0 || what > 2) {
                return NONE;
            }
            Piece p = solid(text(s), '.').get(i);
            return new int[] {"wnocsx".indexOf(p.kind), segments.get(s)[0] + p.at, p.text.length()}[what];
        }

        int keep(int s, int who) {
            if (noSegment(s)) {
                return NONE;
            }
            if (who < 0 || who > 99) {
                return BAD;
            }
            if (torn(text(s)) || torn(tape)) {
                return TORN;
            }
            if (sources.size() == 20 || renderings.size() == 40) {
                return FULL;
            }
            sources.add(text(s));
            renderings.add(new Rendering(sources.size() - 1, tape, who));
            tape = "";
            return sources.size() - 1;
        }

        int change(int pair, int who) {
            if (noPair(pair)) {
                return NONE;
            }
            if (who < 0 || who > 99) {
                return BAD;
            }
            if (torn(tape)) {
                return TORN;
            }
            if (renderings.size() == 40) {
                return FULL;
            }
            renderings.add(new Rendering(pair, tape, who));
            tape = "";
            return renderings.size();
        }

        int undo() {
            if (renderings.isEmpty()) {
                return STATE;
            }
            int pair = renderings.remove(renderings.size() - 1).pair;
            if (at(pair, renderings.size()) == null) {
                sources.remove(pair);
            }
            return pair;
        }

        int pair(int pair, int what) {
            if (noPair(pair) || what < 0 || what > 4) {
                return NONE;
            }
            return new int[] {sources.get(pair).length(), now(pair).length(),
                (int) renderings.stream().filter(r -> r.pair == pair).count(),
                at(pair, renderings.size()).who, timeOf(pair)}[what];
        }

        int rendered(int pair, int time, int i) {
            if (noPair(pair) || time < -1 || time > renderings.size()) {
                return NONE;
            }
            if (time == -1) {
                return byteOf(sources.get(pair), i);
            }
            return at(pair, time) == null ? NONE : byteOf(at(pair, time).text, i);
        }

        int found(int s, int least, int i) {
            if (noSegment(s) || i < 0) {
                return NONE;
            }
            if (least < 0 || least > 100) {
                return BAD;
            }
            List<int[]> list = new ArrayList<>();
            for (int p = 0; p < sources.size(); p++) {
                int score = score(sources.get(p), text(s));
                if (score >= least) {
                    list.add(new int[] {score, timeOf(p), p});
                }
            }
            list.sort((a, b) -> a[0] != b[0] ? b[0] - a[0] : b[1] - a[1]);
            return i < list.size() ? list.get(i)[2] : NONE;
        }

        int differ(int pair, int s) {
            if (noPair(pair) || noSegment(s)) {
                return NONE;
            }
            told = way(sources.get(pair), text(s)).letters;
            return told.length();
        }

        int step(int i, int what) {
            if (i < 0 || i >= told.length() || what < 0 || what > 2) {
                return NONE;
            }
            String ahead = told.substring(0, i);
            char c = told.charAt(i);
            if (what == 0) {
                return "kcoi".indexOf(c);
            }
            char missing = what == 1 ? 'i' : 'o';
            return c == missing ? NONE : ahead.replace(String.valueOf(missing), "").length();
        }

        /** null if it fails. */
        String patched(String rendering, String source, String segment) {
            List<Piece> from = solid(source, '.');
            List<Piece> to = solid(segment, '.');
            Map<String, String> digits = new HashMap<>();
            List<String[]> numbers = new ArrayList<>();
            for (int k = 0; k < from.size(); k++) {
                if (from.get(k).mark()) {
                    String old = digits.put(from.get(k).digit(), to.get(k).digit());
                    if (old != null && !old.equals(to.get(k).digit())) {
                        return null;
                    }
                }
                if (from.get(k).kind == 'n') {
                    numbers.add(new String[] {from.get(k).text.replace('.', ','), to.get(k).text.replace('.', ',')});
                }
            }
            StringBuilder out = new StringBuilder();
            for (Piece p : pieces(rendering, ',')) {
                String put = p.text;
                if (p.mark()) {
                    if (!digits.containsKey(p.digit())) {
                        return null;
                    }
                    put = p.text.replace(p.digit(), digits.get(p.digit()));
                }
                if (p.kind == 'n') {
                    put = null;
                    for (int k = 0; k < numbers.size() && put == null; k++) {
                        if (numbers.get(k)[0].equals(p.text)) {
                            put = numbers.remove(k)[1];
                        }
                    }
                    if (put == null) {
                        return null;
                    }
                }
                out.append(put);
            }
            return numbers.isEmpty() ? out.toString() : null;
        }

        int patch(int s, int pair) {
            if (noSegment(s) || noPair(pair)) {
                return NONE;
            }
            if (!like(text(s), sources.get(pair))) {
                return STATE;
            }
            String out = patched(now(pair), sources.get(pair), text(s));
            if (out == null) {
                return STATE;
            }
            if (out.length() > 600) {
                return FULL;
            }
            tape = out;
            return tape.length();
        }

        int term() {
            if (!tape.matches("[a-zA-Z]{1,8} [a-zA-Z]{1,8}")) {
                return BAD;
            }
            if (terms.size() == 10) {
                return FULL;
            }
            terms.add(tape.split(" "));
            tape = "";
            return terms.size() - 1;
        }

        static long times(String row, char point, String word) {
            return pieces(row, point).stream().filter(p -> p.text.equalsIgnoreCase(word)).count();
        }

        int faults(int pair) {
            if (noPair(pair)) {
                return NONE;
            }
            for (String[] t : terms) {
                if (times(sources.get(pair), '.', t[0]) != times(now(pair), ',', t[1])) {
                    return terms.indexOf(t);
                }
            }
            for (int f = 0; f < forbidden.size(); f++) {
                if (times(now(pair), ',', forbidden.get(f)) > 0) {
                    return 100 + f;
                }
            }
            return 200;
        }

        int counted(int s) {
            if (noSegment(s)) {
                return NONE;
            }
            for (int o = 0; o < s; o++) {
                if (like(text(o), text(s))) {
                    return 0;
                }
            }
            int best = 0;
            for (String source : sources) {
                if (like(source, text(s))) {
                    return 1;
                }
                best = Math.max(best, score(source, text(s)));
            }
            return best >= 75 ? 2 : best >= 50 ? 3 : 4;
        }

        int count(int kind, int words) {
            if (kind < 0 || kind > 4) {
                return NONE;
            }
            if (words < 0 || words > 1) {
                return BAD;
            }
            int sum = 0;
            for (int s = 0; s < segments.size(); s++) {
                sum += counted(s) != kind ? 0 : words == 1 ? segment(s, 4) : 1;
            }
            return sum;
        }

        int spread(int pair) {
            if (noPair(pair)) {
                return NONE;
            }
            int sum = 0;
            for (int s = 0; s < segments.size(); s++) {
                sum += like(text(s), sources.get(pair)) ? 1 : 0;
            }
            return sum;
        }

        int about(int what) {
            return what < 0 || what > 7 ? NONE : new int[] {segments.size(), sources.size(), renderings.size(),
                renderings.size(), tape.length(), exceptions.size(), terms.size(), forbidden.size()}[what];
        }
    }

    private final Random random;
    private final KeptSentences real = new KeptSentences();
    private final Model model = new Model();
    private final List<String> calls = new ArrayList<>();
    private final int[] seen;
    private boolean right = true;

    private ModelRunsTest(long seed, int[] seen) {
        random = new Random(seed);
        this.seen = seen;
    }

    private void same(String call, int got, int want) {
        calls.add(call + " = " + got);
        if (want < 0) {
            seen[-want]++;
        } else {
            seen[0]++;
        }
        if (got != want && right) {
            right = false;
            System.out.println("a run differs from the model, which has " + want + " for the last call:");
            calls.forEach(System.out::println);
        }
    }

    private int below(int n) {
        return random.nextInt(n);
    }

    private String one(String... of) {
        return of[below(of.length)];
    }

    private String word() {
        return one("a", "A", "cat", "Cat", "the", "dr", "DR", "b", "c", "x", "longword", "longwords");
    }

    private String number() {
        return one("1", "2", "3", "3.5", "3,5", "12", "1234567890", "123456789.1234", "1.12345", "7", "7.0", "0");
    }

    private String mark() {
        return one("<1>", "</1>", "<1/>", "<2>", "</2>", "<2/>", "<3/>", "<1>x</1>", "<2>3</2>", "<4><5>y</5></4>");
    }

    private String sign() {
        return one(",", "-", "<", "/", ".", "!", "?", "\u00e9");
    }

    private String sentence(int length) {
        StringBuilder b = new StringBuilder();
        int n = 1 + below(length);
        for (int i = 0; i < n; i++) {
            int k = below(20);
            b.append(k < 9 ? word() : k < 13 ? number() : k < 16 ? mark() : sign());
            b.append(below(4) == 0 ? "" : below(9) == 0 ? "  " : " ");
        }
        return b.toString();
    }

    /** Many sentences of a few shapes, so that there are like ones and near ones. */
    private String bookText() {
        StringBuilder b = new StringBuilder(below(5) == 0 ? " " : "");
        String shape = sentence(7);
        int n = 1 + below(below(8) == 0 ? 30 : 8);
        for (int i = 0; i < n; i++) {
            if (below(3) == 0) {
                shape = sentence(below(10) == 0 ? 24 : 7);
            }
            String s = shape;
            if (below(2) == 0) {
                s = s.replaceAll("(?<![<0-9/.,])3(?![>/0-9.,])", number());
            }
            if (below(3) == 0) {
                s = s.replace("<1", "<7").replace("/1", "/7");
            }
            if (below(4) == 0) {
                s = s.toUpperCase().replace("\u00c9", "\u00e9");
            }
            b.append(s).append(one(".", "!", "?", ".", "")).append(one(" ", " ", " ", "  ", ""));
        }
        return b.length() > 600 ? b.substring(0, 600) : b.toString();
    }

    private void write(String text) {
        same("cut(0)", real.cut(0), model.cut(0));
        for (int at = 0; at < text.length(); at += 8) {
            int n = Math.min(8, text.length() - at);
            long w = random.nextLong() << 8 * n % 64;
            if (n == 8) {
                w = 0;
            }
            long bytes = 0;
            for (int i = 0; i < n; i++) {
                bytes = bytes << 8 | text.charAt(at + i);
            }
            w |= bytes;
            same("feed(" + w + "L, " + n + ")", real.feed(w, n), model.feed(w, n));
        }
    }

    private int number(int most) {
        int k = below(60);
        if (k < 2) {
            return k == 0 ? Integer.MIN_VALUE : Integer.MAX_VALUE;
        }
        return k < 6 ? -1 : k < 11 ? most : most <= 0 ? 0 : below(most);
    }

    private int someSegment() {
        return number(model.segments.size());
    }

    private int somePair() {
        return number(model.sources.size());
    }

    private void put() {
        switch (below(7)) {
            case 0 -> write(bookText());
            case 1 -> write(sentence(12).replace("3.5", "3,5"));
            case 2 -> write(word());
            case 3 -> write(word() + " " + word());
            case 4 -> {
                // a segment as its own rendering, in the other tongue, so that patches come to pass
                if (!model.segments.isEmpty()) {
                    write(model.text(below(model.segments.size())).replaceAll("([0-9])\\.([0-9])", "$1,$2"));
                }
            }
            case 5 -> {
                long w = random.nextLong();
                int n = below(11) - 1;
                same("feed(" + w + "L, " + n + ")", real.feed(w, n), model.feed(w, n));
            }
            default -> {
                int n = below(12) == 0 ? model.tape.length() + 1 : below(model.tape.length() + 2) - 1;
                same("cut(" + n + ")", real.cut(n), model.cut(n));
            }
        }
    }

    private void bookCall() {
        int s = someSegment();
        int i = number(s >= 0 && s < model.segments.size() ? model.segment(s, 3) : 3);
        int what = number(below(2) == 0 ? 6 : 3);
        switch (below(5)) {
            case 0 -> same("load()", real.load(), model.load());
            case 1, 2 -> same("segment(" + s + ", " + what + ")", real.segment(s, what), model.segment(s, what));
            default -> same("piece(" + s + ", " + i + ", " + what + ")",
                real.piece(s, i, what), model.piece(s, i, what));
        }
    }

    /** A segment's own text as its rendering, and then a patch of one that is like it. */
    private void keepOwn() {
        if (model.segments.isEmpty()) {
            return;
        }
        int s = below(model.segments.size());
        write(model.text(s).replaceAll("([0-9])\\.([0-9])", "$1,$2"));
        same("keep(" + s + ", 1)", real.keep(s, 1), model.keep(s, 1));
        for (int other = 0; other < model.segments.size(); other++) {
            int pair = model.sources.size() - 1;
            same("patch(" + other + ", " + pair + ")", real.patch(other, pair), model.patch(other, pair));
        }
        tapeBytes();
    }

    private void tapeBytes() {
        for (int i = -1; i <= model.tape.length(); i++) {
            int want = Model.byteOf(model.tape, i);
            if (real.tape(i) != want) {
                same("tape(" + i + ")", real.tape(i), want);
            }
        }
    }

    private void memoryCall() {
        int s = someSegment();
        int p = somePair();
        int who = below(10) == 0 ? one("a", "b").equals("a") ? -1 : 100 : below(100);
        int time = below(model.renderings.size() + 4) - 2;
        int i = below(10);
        switch (below(16)) {
            case 0, 1 -> same("keep(" + s + ", " + who + ")", real.keep(s, who), model.keep(s, who));
            case 2, 3 -> same("change(" + p + ", " + who + ")", real.change(p, who), model.change(p, who));
            case 4 -> same("undo()", real.undo(), model.undo());
            case 5, 6 -> same("pair(" + p + ", " + (i - 3) + ")", real.pair(p, i - 3), model.pair(p, i - 3));
            case 7 -> same("rendered(" + p + ", " + time + ", " + i + ")",
                real.rendered(p, time, i), model.rendered(p, time, i));
            case 8 -> same("like(" + s + ", " + p + ")", real.like(s, p), model.noSegment(s) || model.noPair(p) ? NONE
                : Model.like(model.text(s), model.sources.get(p)) ? 1 : 0);
            case 9 -> same("score(" + s + ", " + p + ")", real.score(s, p), model.noSegment(s) || model.noPair(p)
                ? NONE : Model.score(model.sources.get(p), model.text(s)));
            case 10, 11 -> {
                int least = below(12) == 0 ? one("a", "b").equals("a") ? -1 : 101 : below(101);
                int k = number(3);
                same("found(" + s + ", " + least + ", " + k + ")", real.found(s, least, k), model.found(s, least, k));
            }
            case 12 -> same("differ(" + p + ", " + s + ")", real.differ(p, s), model.differ(p, s));
            case 13 -> {
                for (int k = -1; k <= model.told.length(); k++) {
                    for (int what = -1; what < 4; what++) {
                        same("step(" + k + ", " + what + ")", real.step(k, what), model.step(k, what));
                    }
                }
            }
            case 14 -> same("patch(" + s + ", " + p + ")", real.patch(s, p), model.patch(s, p));
            default -> keepOwn();
        }
    }

    private void wordCall() {
        int p = somePair();
        switch (below(12)) {
            case 0 -> same("except()", real.except(), model.addWord(model.exceptions, 8));
            case 1, 2 -> same("term()", real.term(), model.term());
            case 3 -> same("forbid()", real.forbid(), model.addWord(model.forbidden, 5));
            default -> same("faults(" + p + ")", real.faults(p), model.faults(p));
        }
    }

    private void countCall() {
        int s = someSegment();
        int p = somePair();
        int k = below(8) - 1;
        int words = below(4) - 1;
        switch (below(6)) {
            case 0, 1 -> same("counted(" + s + ")", real.counted(s), model.counted(s));
            case 2 -> same("count(" + k + ", " + words + ")", real.count(k, words), model.count(k, words));
            case 3 -> same("spread(" + p + ")", real.spread(p), model.spread(p));
            default -> same("about(" + k + ")", real.about(k), model.about(k));
        }
    }

    private boolean run() {
        write(bookText());
        same("load()", real.load(), model.load());
        while (right && calls.size() < CALLS) {
            int k = below(10);
            if (k < 2) {
                put();
            } else if (k < 4) {
                bookCall();
            } else if (k < 7) {
                memoryCall();
            } else if (k < 8) {
                wordCall();
            } else {
                countCall();
            }
            tapeBytes();
        }
        return right;
    }

    public static void main(String[] args) {
        int runs = args.length > 0 ? Integer.parseInt(args[0]) : RUNS;
        int[] seen = new int[6];
        for (int seed = 0; seed < runs; seed++) {
            if (!new ModelRunsTest(seed, seen).run()) {
                System.out.println("seed " + seed);
                System.exit(1);
            }
        }
        System.out.println(runs + " runs are as the model's; answers: " + seen[0] + ", NONE " + seen[1] + ", BAD "
            + seen[2] + ", TORN " + seen[3] + ", STATE " + seen[4] + ", FULL " + seen[5]);
    }
}
