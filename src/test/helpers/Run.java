import java.util.ArrayList;
import java.util.List;

/**
 * A run of calls on a new object. It is kept, so that it can be made again on other objects: what is read to
 * compare goes to such ones, and no object ever gets more calls than the document promises anything for.
 */
final class Run {
    static final int MOST_CALLS = 512;
    // words that the tests use as EXCEPTIONS, to see whether they are some
    private static final String STOPS = "a. b. dr. abcdefgh. z. q. w. ";

    private record Call(String name, long... args) {
        int on(KeptSentences x) {
            return switch (args.length) {
                case 0 -> plain(x);
                case 1 -> one(x, (int) args[0]);
                case 2 -> two(x, (int) args[0], (int) args[1]);
                default -> three(x, (int) args[0], (int) args[1], (int) args[2]);
            };
        }

        private int plain(KeptSentences x) {
            return switch (name) {
                case "except" -> x.except();
                case "load" -> x.load();
                case "undo" -> x.undo();
                case "term" -> x.term();
                case "forbid" -> x.forbid();
                default -> throw new IllegalArgumentException(name);
            };
        }

        private int one(KeptSentences x, int a) {
            return switch (name) {
                case "cut" -> x.cut(a);
                case "tape" -> x.tape(a);
                case "faults" -> x.faults(a);
                case "counted" -> x.counted(a);
                case "spread" -> x.spread(a);
                case "about" -> x.about(a);
                default -> throw new IllegalArgumentException(name);
            };
        }

        private int two(KeptSentences x, int a, int b) {
            return switch (name) {
                case "feed" -> x.feed(args[0], b);
                case "segment" -> x.segment(a, b);
                case "keep" -> x.keep(a, b);
                case "change" -> x.change(a, b);
                case "pair" -> x.pair(a, b);
                case "like" -> x.like(a, b);
                case "score" -> x.score(a, b);
                case "differ" -> x.differ(a, b);
                case "step" -> x.step(a, b);
                case "patch" -> x.patch(a, b);
                case "count" -> x.count(a, b);
                default -> throw new IllegalArgumentException(name);
            };
        }

        private int three(KeptSentences x, int a, int b, int c) {
            return switch (name) {
                case "piece" -> x.piece(a, b, c);
                case "rendered" -> x.rendered(a, b, c);
                case "found" -> x.found(a, b, c);
                default -> throw new IllegalArgumentException(name);
            };
        }

        @Override
        public String toString() {
            StringBuilder b = new StringBuilder(name).append('(');
            for (int i = 0; i < args.length; i++) {
                b.append(i == 0 ? "" : ", ").append(args[i]);
            }
            return b.append(')').toString();
        }
    }

    /** Asks one thing after the other, each of an object that has had this run's calls and still may be called. */
    private final class Reader {
        private KeptSentences x;
        private int used = MOST_CALLS;

        int ask(String name, long... args) {
            if (used >= MOST_CALLS) {
                x = again();
                used = made.size();
            }
            used++;
            return new Call(name, args).on(x);
        }

        /** The answers for the last argument 0, 1, .. up to the first one that is refused. */
        String row(String name, long... args) {
            StringBuilder b = new StringBuilder();
            long[] more = java.util.Arrays.copyOf(args, args.length + 1);
            int got = ask(name, more);
            while (got >= 0) {
                b.append((char) got);
                more = more.clone();
                more[args.length]++;
                got = ask(name, more);
            }
            return b.toString();
        }
    }

    private final List<Call> made = new ArrayList<>();
    private final KeptSentences object = new KeptSentences();

    private KeptSentences again() {
        KeptSentences x = new KeptSentences();
        for (Call c : made) {
            c.on(x);
        }
        return x;
    }

    int calls() {
        return made.size();
    }

    int answer(String name, long... args) {
        if (made.size() >= MOST_CALLS) {
            Due.fault("the test makes more calls on an object than may be");
        }
        Call c = new Call(name, args);
        made.add(c);
        return c.on(object);
    }

    Run due(int want, String name, long... args) {
        Due.answer(new Call(name, args).toString(), answer(name, args), want);
        return this;
    }

    /** The answer is a refusal, and neither what can be read nor what can be undone is changed by it. */
    Run refused(int want, String name, long... args) {
        String before = all();
        due(want, name, args);
        Due.text("what stands behind " + new Call(name, args), all(), before);
        return this;
    }

    Run more(String text) {
        for (int at = 0; at < text.length(); at += 8) {
            int n = Math.min(8, text.length() - at);
            long w = 0;
            for (int i = 0; i < n; i++) {
                w = w << 8 | text.charAt(at + i);
            }
            if (answer("feed", w, n) < 0) {
                Due.fault("the test could not feed '" + text + "'");
            }
        }
        return this;
    }

    /** Puts a text on the tape in the place of what is there. */
    Run write(String text) {
        answer("cut", 0);
        return more(text);
    }

    Run book(String text, int segments) {
        return write(text).due(segments, "load");
    }

    Run keep(int pair, int s, String rendering) {
        return write(rendering).due(pair, "keep", s, 0);
    }

    Run change(int time, int pair, String rendering) {
        return write(rendering).due(time, "change", pair, 0);
    }

    Run except(int many, String word) {
        return write(word).due(many, "except");
    }

    Run term(int number, String text) {
        return write(text).due(number, "term");
    }

    Run forbid(int many, String word) {
        return write(word).due(many, "forbid");
    }

    Run dueTape(String want) {
        Due.text("the tape", new Reader().row("tape"), want);
        return this;
    }

    Run dueRendered(int pair, int time, String want) {
        Due.text("pair " + pair + " at " + time, new Reader().row("rendered", pair, time), want);
        return this;
    }

    /** The steps told: k, c, o, i and the numbers of their pieces. */
    Run dueSteps(String want) {
        Reader r = new Reader();
        StringBuilder b = new StringBuilder();
        for (int i = 0; r.ask("step", i, 0) >= 0; i++) {
            b.append(i == 0 ? "" : " ").append("kcoi".charAt(r.ask("step", i, 0)));
            b.append(r.ask("step", i, 1)).append('/').append(r.ask("step", i, 2));
        }
        Due.text("the row of steps", b.toString().replace("-1", "-"), want);
        return this;
    }

    /** Loads a text, which must be cut like this. */
    Run dueSegments(String... want) {
        String text = String.join("", want);
        book(text, want.length);
        Reader r = new Reader();
        for (int s = 0; s < want.length; s++) {
            int begin = Math.max(0, Math.min(r.ask("segment", s, 0), text.length()));
            int end = Math.max(begin, Math.min(begin + r.ask("segment", s, 1), text.length()));
            Due.text("segment " + s, text.substring(begin, end), want[s]);
        }
        return this;
    }

    /** Loads a text of one segment, whose solid pieces must be these: a letter for the kind, and the bytes. */
    static void duePieces(String text, String... want) {
        Run run = new Run().book(text, 1);
        Reader r = run.new Reader();
        List<String> got = new ArrayList<>();
        for (int i = 0; r.ask("piece", 0, i, 0) >= 0; i++) {
            int begin = r.ask("piece", 0, i, 1);
            int end = Math.min(text.length(), begin + r.ask("piece", 0, i, 2));
            got.add("WNOCSX".charAt(r.ask("piece", 0, i, 0)) + text.substring(begin, Math.max(begin, end)));
        }
        Due.text("the row of pieces of '" + text + "'", got.toString(), List.of(want).toString());
        Due.answer("segment(0, 3)", r.ask("segment", 0, 3), want.length);
    }

    /** All that can be read of the object, and what it would answer if all were undone and a book came. */
    String all() {
        StringBuilder b = new StringBuilder();
        Reader r = new Reader();
        b.append("about ").append(numbers(r.row("about"))).append(" tape ").append(r.row("tape"));
        b.append(" step ").append(steps(r));
        int segments = r.ask("about", 0);
        int pairs = r.ask("about", 1);
        for (int s = 0; s < segments; s++) {
            b.append("\nsegment ").append(numbers(r.row("segment", s))).append(r.ask("counted", s));
            for (int i = 0; r.ask("piece", s, i, 0) >= 0; i++) {
                b.append(" piece ").append(numbers(r.row("piece", s, i)));
            }
            b.append(" found ").append(numbers(r.row("found", s, 0)));
        }
        for (int p = 0; p < pairs; p++) {
            b.append("\npair ").append(numbers(r.row("pair", p))).append(r.ask("faults", p));
            b.append(' ').append(r.ask("spread", p));
            for (int t = -1; t <= r.ask("about", 3); t++) {
                b.append('/').append(r.row("rendered", p, t));
            }
            for (int s = 0; s < segments; s++) {
                b.append(' ').append(r.ask("like", s, p)).append(':').append(r.ask("score", s, p));
            }
        }
        for (int kind = 0; kind < 5; kind++) {
            b.append("\ncount ").append(r.ask("count", kind, 0)).append(' ').append(r.ask("count", kind, 1));
        }
        return b.append(later()).toString();
    }

    private static String numbers(String row) {
        StringBuilder b = new StringBuilder();
        row.chars().forEach(n -> b.append(n).append(' '));
        return b.toString();
    }

    private static String steps(Reader r) {
        StringBuilder b = new StringBuilder();
        for (int i = 0; r.ask("step", i, 0) >= 0; i++) {
            b.append(r.ask("step", i, 0)).append(r.ask("step", i, 1)).append(r.ask("step", i, 2)).append(' ');
        }
        return b.toString();
    }

    /** On an object of its own, for these calls change it; with a long run there is no room for them. */
    private String later() {
        StringBuilder b = new StringBuilder("\nlater");
        if (made.size() + 60 > MOST_CALLS) {
            return "";
        }
        KeptSentences x = again();
        x.cut(0);
        for (char c : STOPS.toCharArray()) {
            x.feed(c, 1);
        }
        b.append(' ').append(x.load());
        for (int i = 0; i < 20; i++) {
            b.append(' ').append(x.undo());
        }
        return b.toString();
    }
}
