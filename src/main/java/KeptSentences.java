import java.util.Arrays;

/** A memory of sentences and what they became in another tongue. */
public final class KeptSentences {
    public static final int NONE = -1, BAD = -2, TORN = -3, STATE = -4, FULL = -5;

    private static final int TAPE_ROOM = 600;
    private static final int MOST_SEGMENTS = 24;
    private static final int MOST_SOLID = 20;
    private static final int MOST_PAIRS = 20;
    private static final int MOST_RENDERINGS = 40;
    private static final int MOST_EXCEPTIONS = 8;
    private static final int MOST_TERMS = 10;
    private static final int MOST_FORBIDDEN = 5;
    private static final int MOST_LETTERS = 8;
    private static final int MOST_WHO = 99;

    private static final int WORD = 0, NUMBER = 1, OPEN = 2, CLOSE = 3, SINGLE = 4, SIGN = 5, BLANK = 6;

    private static final int BOOK_POINT = '.';
    private static final int RENDERING_POINT = ',';

    private static final int AGAIN = 0, KNOWN = 1, NEAR = 2, FAR = 3, NEW = 4;
    private static final int KINDS_COUNTED = 5;

    private final Text tapeText;
    private final Book book;
    private final Memory memory;
    private final Nearness nearness;
    private final Ladder told;
    private final Patcher patcher;
    private final Nesting nesting;
    private final Row reading;
    private final Words exceptions;
    private final Words termWords;
    private final Words termRenderings;
    private final Words forbidden;

    public KeptSentences() {
        tapeText = new Text(TAPE_ROOM);
        book = new Book();
        memory = new Memory();
        told = new Ladder();
        nearness = new Nearness(told);
        patcher = new Patcher();
        nesting = new Nesting();
        reading = new Row(tapeText, TAPE_ROOM);
        exceptions = new Words(MOST_EXCEPTIONS);
        termWords = new Words(MOST_TERMS);
        termRenderings = new Words(MOST_TERMS);
        forbidden = new Words(MOST_FORBIDDEN);
    }

    public int feed(long w, int n) {
        if (n < 1 || n > 8) {
            return BAD;
        }
        if (tapeText.size + n > TAPE_ROOM) {
            return FULL;
        }
        for (int i = n - 1; i >= 0; i--) {
            tapeText.put((int) (w >>> (8 * i)));
        }
        return tapeText.size;
    }

    public int cut(int n) {
        if (n < 0 || n > tapeText.size) {
            return BAD;
        }
        tapeText.size = n;
        return n;
    }

    public int tape(int i) {
        return tapeText.at(i);
    }

    public int except() {
        return addTapeTo(exceptions);
    }

    public int load() {
        int n = book.become(tapeText, exceptions);
        if (n >= 0) {
            tapeText.size = 0;
            nearness.forgetAll();
        }
        return n;
    }

    public int segment(int s, int what) {
        if (!isSegment(s)) {
            return NONE;
        }
        Row row = book.segments[s];
        switch (what) {
            case 0: return row.from;
            case 1: return row.to - row.from;
            case 2: return row.all;
            case 3: return row.solid;
            case 4: return row.words;
            case 5: return nesting.isTorn(row) ? 1 : 0;
            default: return NONE;
        }
    }

    public int piece(int s, int i, int what) {
        if (!isSegment(s)) {
            return NONE;
        }
        Row row = book.segments[s];
        if (i < 0 || i >= row.solid) {
            return NONE;
        }
        switch (what) {
            case 0: return row.kinds[i];
            case 1: return row.begins[i];
            case 2: return row.lengths[i];
            default: return NONE;
        }
    }

    public int keep(int s, int who) {
        if (!isSegment(s)) {
            return NONE;
        }
        if (!isSomebody(who)) {
            return BAD;
        }
        if (nesting.isTorn(book.segments[s]) || isTapeTorn()) {
            return TORN;
        }
        if (memory.pairs >= MOST_PAIRS || memory.time >= MOST_RENDERINGS) {
            return FULL;
        }
        int pair = memory.addPair(book.segments[s]);
        nearness.forgetPair(pair);
        moveTapeTo(pair, who);
        return pair;
    }

    public int change(int pair, int who) {
        if (!isPair(pair)) {
            return NONE;
        }
        if (!isSomebody(who)) {
            return BAD;
        }
        if (isTapeTorn()) {
            return TORN;
        }
        if (memory.time >= MOST_RENDERINGS) {
            return FULL;
        }
        moveTapeTo(pair, who);
        return memory.time;
    }

    public int undo() {
        return memory.time == 0 ? STATE : memory.takeBack();
    }

    public int pair(int pair, int what) {
        if (!isPair(pair)) {
            return NONE;
        }
        int latest = memory.latest[pair];
        switch (what) {
            case 0: return memory.sources[pair].size;
            case 1: return memory.renderings[latest].size;
            case 2: return memory.renderingsOf(pair);
            case 3: return memory.by[latest];
            case 4: return latest + 1;
            default: return NONE;
        }
    }

    public int rendered(int pair, int time, int i) {
        if (!isPair(pair) || time < -1 || time > memory.time) {
            return NONE;
        }
        if (time == -1) {
            return memory.sources[pair].at(i);
        }
        int rendering = memory.renderingAt(pair, time);
        return rendering < 0 ? NONE : memory.renderings[rendering].at(i);
    }

    public int like(int s, int pair) {
        if (!isSegment(s) || !isPair(pair)) {
            return NONE;
        }
        return isLikeSource(s, pair) ? 1 : 0;
    }

    public int score(int s, int pair) {
        return isSegment(s) && isPair(pair) ? scoreOf(s, pair) : NONE;
    }

    public int found(int s, int least, int i) {
        if (!isSegment(s) || i < 0) {
            return NONE;
        }
        if (least < 0 || least > 100) {
            return BAD;
        }
        for (int pair = 0; pair < memory.pairs; pair++) {
            if (scoreOf(s, pair) >= least && aheadOf(pair, s) == i) {
                return pair;
            }
        }
        return NONE;
    }

    public int differ(int pair, int s) {
        if (!isPair(pair) || !isSegment(s)) {
            return NONE;
        }
        told.tell(memory.rows[pair], book.segments[s]);
        return told.steps;
    }

    public int step(int i, int what) {
        if (i < 0 || i >= told.steps) {
            return NONE;
        }
        switch (what) {
            case 0: return told.sorts[i];
            case 1: return told.lefts[i];
            case 2: return told.rights[i];
            default: return NONE;
        }
    }

    public int patch(int s, int pair) {
        if (!isSegment(s) || !isPair(pair)) {
            return NONE;
        }
        if (!isLikeSource(s, pair)) {
            return STATE;
        }
        readRenderingOf(pair);
        if (!patcher.make(reading, memory.rows[pair], book.segments[s])) {
            return STATE;
        }
        if (patcher.out.size > TAPE_ROOM) {
            return FULL;
        }
        tapeText.take(patcher.out, 0, patcher.out.size);
        return tapeText.size;
    }

    public int term() {
        int gap = tapeText.firstBlank();
        long word = Words.packed(tapeText, 0, gap);
        long rendering = Words.packed(tapeText, gap + 1, tapeText.size);
        if (word == 0 || rendering == 0) {
            return BAD;
        }
        if (termWords.isFull()) {
            return FULL;
        }
        termWords.add(word);
        termRenderings.add(rendering);
        tapeText.size = 0;
        return termWords.size - 1;
    }

    public int forbid() {
        return addTapeTo(forbidden);
    }

    public int faults(int pair) {
        if (!isPair(pair)) {
            return NONE;
        }
        readRenderingOf(pair);
        Row source = memory.rows[pair];
        for (int t = 0; t < termWords.size; t++) {
            if (source.timesOf(termWords.list[t]) != reading.timesOf(termRenderings.list[t])) {
                return t;
            }
        }
        for (int f = 0; f < forbidden.size; f++) {
            if (reading.timesOf(forbidden.list[f]) > 0) {
                return 100 + f;
            }
        }
        return 200;
    }

    public int counted(int s) {
        return isSegment(s) ? kindCounted(s) : NONE;
    }

    public int count(int kind, int words) {
        if (kind < 0 || kind >= KINDS_COUNTED) {
            return NONE;
        }
        if (words != 0 && words != 1) {
            return BAD;
        }
        int sum = 0;
        for (int s = 0; s < book.size; s++) {
            if (kindCounted(s) == kind) {
                sum += words == 0 ? 1 : book.segments[s].words;
            }
        }
        return sum;
    }

    public int spread(int pair) {
        if (!isPair(pair)) {
            return NONE;
        }
        int sum = 0;
        for (int s = 0; s < book.size; s++) {
            if (isLikeSource(s, pair)) {
                sum++;
            }
        }
        return sum;
    }

    public int about(int what) {
        switch (what) {
            case 0: return book.size;
            case 1: return memory.pairs;
            // each RENDERING moves TIME by 1, and each undo takes both back, so they are one number
            case 2: return memory.time;
            case 3: return memory.time;
            case 4: return tapeText.size;
            case 5: return exceptions.size;
            case 6: return termWords.size;
            case 7: return forbidden.size;
            default: return NONE;
        }
    }

    private boolean isSegment(int s) {
        return s >= 0 && s < book.size;
    }

    private boolean isPair(int pair) {
        return pair >= 0 && pair < memory.pairs;
    }

    private boolean isSomebody(int who) {
        return who >= 0 && who <= MOST_WHO;
    }

    private boolean isTapeTorn() {
        reading.read(tapeText, 0, tapeText.size, RENDERING_POINT);
        return nesting.isTorn(reading);
    }

    private void readRenderingOf(int pair) {
        Text rendering = memory.renderings[memory.latest[pair]];
        reading.read(rendering, 0, rendering.size, RENDERING_POINT);
    }

    private void moveTapeTo(int pair, int who) {
        memory.addRendering(pair, tapeText, who);
        tapeText.size = 0;
    }

    private int addTapeTo(Words words) {
        long word = Words.packed(tapeText, 0, tapeText.size);
        if (word == 0) {
            return BAD;
        }
        if (words.isFull()) {
            return FULL;
        }
        words.add(word);
        tapeText.size = 0;
        return words.size;
    }

    private boolean isLikeSource(int s, int pair) {
        return book.segments[s].isLike(memory.rows[pair]);
    }

    private int scoreOf(int s, int pair) {
        return nearness.between(pair, memory.rows[pair], s, book.segments[s]);
    }

    /** How many PAIRS are told ahead of this one; all of them are FOUND whenever this one is. */
    private int aheadOf(int pair, int s) {
        int mine = scoreOf(s, pair);
        int ahead = 0;
        for (int other = 0; other < memory.pairs; other++) {
            int its = scoreOf(s, other);
            if (its > mine || its == mine && memory.latest[other] > memory.latest[pair]) {
                ahead++;
            }
        }
        return ahead;
    }

    private int kindCounted(int s) {
        for (int other = 0; other < s; other++) {
            if (book.segments[s].isLike(book.segments[other])) {
                return AGAIN;
            }
        }
        int best = 0;
        for (int pair = 0; pair < memory.pairs; pair++) {
            if (isLikeSource(s, pair)) {
                return KNOWN;
            }
            best = Math.max(best, scoreOf(s, pair));
        }
        if (best >= 75) {
            return NEAR;
        }
        return best >= 50 ? FAR : NEW;
    }

    /** Bytes in a row; its array grows when it takes more and is used again otherwise. */
    private static final class Text {
        byte[] bytes;
        int size;

        Text(int room) {
            bytes = new byte[Math.max(room, 0)];
        }

        int at(int i) {
            return i < 0 || i >= size ? NONE : bytes[i] & 255;
        }

        void put(int b) {
            if (size < bytes.length) {
                bytes[size] = (byte) b;
                size++;
            }
        }

        void take(Text other, int begin, int end) {
            if (begin < 0 || end < begin || end > other.size) {
                return;
            }
            int n = end - begin;
            if (bytes.length < n) {
                // rounded up, so that rows a little longer find room again
                bytes = new byte[(n + 63) / 64 * 64];
            }
            System.arraycopy(other.bytes, begin, bytes, 0, n);
            size = n;
        }

        int firstBlank() {
            for (int i = 0; i < size; i++) {
                if (bytes[i] == ' ') {
                    return i;
                }
            }
            return size;
        }
    }

    /** Where one PIECE ends, and of which kind it is. */
    private static final class Scan {
        static boolean isLetter(int b) {
            return b >= 'a' && b <= 'z' || b >= 'A' && b <= 'Z';
        }

        static boolean isDigit(int b) {
            return b >= '0' && b <= '9';
        }

        static int byteAt(Text text, int i, int to) {
            return i < to ? text.at(i) : NONE;
        }

        static int kindAt(Text text, int at, int to) {
            int b = byteAt(text, at, to);
            if (isLetter(b)) {
                return WORD;
            }
            if (isDigit(b)) {
                return NUMBER;
            }
            if (b == ' ') {
                return BLANK;
            }
            return b == '<' ? kindBehindBracket(text, at, to) : SIGN;
        }

        static int kindBehindBracket(Text text, int at, int to) {
            int first = byteAt(text, at + 1, to);
            int second = byteAt(text, at + 2, to);
            if (isDigit(first) && second == '>') {
                return OPEN;
            }
            if (byteAt(text, at + 3, to) != '>') {
                return SIGN;
            }
            if (first == '/' && isDigit(second)) {
                return CLOSE;
            }
            return isDigit(first) && second == '/' ? SINGLE : SIGN;
        }

        static int endOf(Text text, int at, int to, int kind, int point) {
            switch (kind) {
                case WORD: return lettersEnd(text, at, to);
                case NUMBER: return numberEnd(text, at, to, point);
                case OPEN: return at + 3;
                case CLOSE: return at + 4;
                case SINGLE: return at + 4;
                case BLANK: return blanksEnd(text, at, to);
                default: return at + 1;
            }
        }

        static int lettersEnd(Text text, int at, int to) {
            int end = at;
            while (end < to && isLetter(text.at(end))) {
                end++;
            }
            return end;
        }

        static int blanksEnd(Text text, int at, int to) {
            int end = at;
            while (end < to && text.at(end) == ' ') {
                end++;
            }
            return end;
        }

        static int digitsEnd(Text text, int at, int to, int most) {
            int end = at;
            while (end < to && end < at + most && isDigit(text.at(end))) {
                end++;
            }
            return end;
        }

        static int numberEnd(Text text, int at, int to, int point) {
            int end = digitsEnd(text, at, to, 9);
            if (byteAt(text, end, to) != point) {
                return end;
            }
            int behind = digitsEnd(text, end + 1, to, 4);
            return behind > end + 1 ? behind : end;
        }
    }

    /** A part of a text, read as PIECES: SOLID ones are listed, BLANKS are only counted. */
    private static final class Row {
        final int[] kinds;
        final int[] begins;
        final int[] lengths;
        Text text;
        int from;
        int to;
        int all;
        int solid;
        int words;

        Row(Text text, int room) {
            this.text = text;
            kinds = new int[Math.max(room, 0)];
            begins = new int[Math.max(room, 0)];
            lengths = new int[Math.max(room, 0)];
        }

        void read(Text newText, int begin, int end, int point) {
            text = newText;
            from = begin;
            to = end;
            all = 0;
            solid = 0;
            words = 0;
            int at = begin;
            while (at < end) {
                int kind = Scan.kindAt(newText, at, end);
                int next = Math.max(at + 1, Scan.endOf(newText, at, end, kind, point));
                addPiece(kind, at, next - at);
                at = next;
            }
        }

        void addPiece(int kind, int begin, int length) {
            all++;
            if (kind == BLANK || solid >= kinds.length) {
                return;
            }
            kinds[solid] = kind;
            begins[solid] = begin;
            lengths[solid] = length;
            solid++;
            if (kind == WORD) {
                words++;
            }
        }

        boolean isMark(int i) {
            return kinds[i] == OPEN || kinds[i] == CLOSE || kinds[i] == SINGLE;
        }

        int digitPlace(int i) {
            return begins[i] + (kinds[i] == CLOSE ? 2 : 1);
        }

        /** The digit of a MARK, as a number. */
        int digit(int i) {
            return text.at(digitPlace(i)) - '0';
        }

        boolean hasBytesOf(int i, Row other, int j) {
            if (lengths[i] != other.lengths[j]) {
                return false;
            }
            byte[] mine = text.bytes;
            byte[] its = other.text.bytes;
            for (int k = 0; k < lengths[i]; k++) {
                if (mine[begins[i] + k] != its[other.begins[j] + k]) {
                    return false;
                }
            }
            return true;
        }

        /** For WORDS alone: there, small and great differ by the bit 32 and by nothing else. */
        boolean hasLettersOf(int i, Row other, int j) {
            if (lengths[i] != other.lengths[j]) {
                return false;
            }
            byte[] mine = text.bytes;
            byte[] its = other.text.bytes;
            for (int k = 0; k < lengths[i]; k++) {
                if ((mine[begins[i] + k] | 32) != (its[other.begins[j] + k] | 32)) {
                    return false;
                }
            }
            return true;
        }

        boolean isLike(Row other) {
            if (solid != other.solid) {
                return false;
            }
            for (int i = 0; i < solid; i++) {
                if (!isPieceLike(i, other)) {
                    return false;
                }
            }
            return true;
        }

        boolean isPieceLike(int i, Row other) {
            if (kinds[i] != other.kinds[i]) {
                return false;
            }
            switch (kinds[i]) {
                case WORD: return hasLettersOf(i, other, i);
                case SIGN: return hasBytesOf(i, other, i);
                default: return true;
            }
        }

        /** What KEEP (0) or CHANGE costs from piece i to piece j of the other row. */
        int changeCost(int i, Row other, int j) {
            if (kinds[i] != other.kinds[j]) {
                return 10;
            }
            if (hasBytesOf(i, other, j)) {
                return 0;
            }
            switch (kinds[i]) {
                case WORD: return hasLettersOf(i, other, j) ? 1 : 10;
                case SIGN: return 10;
                default: return 2;
            }
        }

        /** What it costs to LEAVE this piece OUT or to PUT it IN. */
        int aloneCost(int i) {
            return isMark(i) ? 4 : 10;
        }

        int timesOf(long word) {
            int times = 0;
            for (int i = 0; i < solid; i++) {
                if (kinds[i] == WORD && Words.packed(text, begins[i], begins[i] + lengths[i]) == word) {
                    times++;
                }
            }
            return times;
        }
    }

    /** Whether MARKS close. */
    private static final class Nesting {
        // the shortest MARK has 3 bytes
        final int[] open = new int[TAPE_ROOM / 3];

        boolean isTorn(Row row) {
            int depth = 0;
            for (int i = 0; i < row.solid; i++) {
                if (row.kinds[i] == OPEN && depth < open.length) {
                    open[depth] = row.digit(i);
                    depth++;
                } else if (row.kinds[i] == CLOSE) {
                    if (depth == 0 || open[depth - 1] != row.digit(i)) {
                        return true;
                    }
                    depth--;
                }
            }
            return depth != 0;
        }
    }

    /** A list of WORDS of 1 to 8 letters, each packed into a long with small letters. */
    private static final class Words {
        final long[] list;
        int size;

        Words(int room) {
            list = new long[Math.max(room, 0)];
        }

        /** 0 if these bytes are no WORD of 1 to 8 letters, so that no such WORD is alike any in a list. */
        static long packed(Text text, int begin, int end) {
            if (end <= begin || end - begin > MOST_LETTERS) {
                return 0;
            }
            long word = 0;
            for (int i = begin; i < end; i++) {
                int b = text.at(i);
                if (!Scan.isLetter(b)) {
                    return 0;
                }
                word = word << 8 | b | 32;
            }
            return word;
        }

        boolean isFull() {
            return size >= list.length;
        }

        void add(long word) {
            if (!isFull()) {
                list[size] = word;
                size++;
            }
        }

        boolean has(long word) {
            for (int i = 0; i < size; i++) {
                if (list[i] == word) {
                    return true;
                }
            }
            return false;
        }
    }

    /** THE BOOK and its SEGMENTS. */
    private static final class Book {
        final Text text = new Text(0);
        final Row[] segments = new Row[MOST_SEGMENTS];
        final int[] ends = new int[MOST_SEGMENTS];
        int size;

        Book() {
            for (int s = 0; s < MOST_SEGMENTS; s++) {
                segments[s] = new Row(text, MOST_SOLID);
            }
        }

        int become(Text tape, Words exceptions) {
            int n = findEnds(tape, exceptions);
            if (n < 0) {
                return n;
            }
            text.take(tape, 0, tape.size);
            int begin = 0;
            for (int s = 0; s < n; s++) {
                segments[s].read(text, begin, ends[s], BOOK_POINT);
                begin = ends[s];
            }
            size = n;
            return n;
        }

        /** How many SEGMENTS there would be, or FULL; THE BOOK stays, for this may be refused. */
        int findEnds(Text tape, Words exceptions) {
            int n = 0;
            int solid = 0;
            long ahead = 0;
            int at = 0;
            while (at < tape.size) {
                int kind = Scan.kindAt(tape, at, tape.size);
                int next = Math.max(at + 1, Scan.endOf(tape, at, tape.size, kind, BOOK_POINT));
                if (kind != BLANK) {
                    solid++;
                }
                if (solid > MOST_SOLID) {
                    return FULL;
                }
                boolean excepted = tape.at(at) == '.' && exceptions.has(ahead);
                boolean closes = !excepted && isStop(tape.at(at)) && isBlankOrEnd(tape, next);
                if (closes) {
                    next = Scan.blanksEnd(tape, next, tape.size);
                }
                if (closes || next >= tape.size) {
                    if (n >= MOST_SEGMENTS) {
                        return FULL;
                    }
                    ends[n] = next;
                    n++;
                    solid = 0;
                }
                ahead = kind == WORD ? Words.packed(tape, at, next) : 0;
                at = next;
            }
            return n;
        }

        /** A PIECE that begins with one of these bytes is always a SIGN. */
        static boolean isStop(int b) {
            return b == '.' || b == '!' || b == '?';
        }

        static boolean isBlankOrEnd(Text tape, int at) {
            return at >= tape.size || tape.at(at) == ' ';
        }
    }

    /** PAIRS and RENDERINGS; both come and go at the end alone, so RENDERING r came at TIME r + 1. */
    private static final class Memory {
        final Text[] sources = new Text[MOST_PAIRS];
        final Row[] rows = new Row[MOST_PAIRS];
        final int[] latest = new int[MOST_PAIRS];
        final Text[] renderings = new Text[MOST_RENDERINGS];
        final int[] pairOf = new int[MOST_RENDERINGS];
        final int[] by = new int[MOST_RENDERINGS];
        int pairs;
        int time;

        Memory() {
            for (int p = 0; p < MOST_PAIRS; p++) {
                sources[p] = new Text(0);
                rows[p] = new Row(sources[p], MOST_SOLID);
            }
            for (int r = 0; r < MOST_RENDERINGS; r++) {
                renderings[r] = new Text(0);
            }
        }

        /** The caller has seen that there is room, and adds its first RENDERING at once. */
        int addPair(Row segment) {
            int pair = pairs;
            sources[pair].take(segment.text, segment.from, segment.to);
            rows[pair].read(sources[pair], 0, sources[pair].size, BOOK_POINT);
            pairs++;
            return pair;
        }

        void addRendering(int pair, Text text, int who) {
            renderings[time].take(text, 0, text.size);
            pairOf[time] = pair;
            by[time] = who;
            latest[pair] = time;
            time++;
        }

        int takeBack() {
            time--;
            int pair = pairOf[time];
            int before = renderingAt(pair, time);
            if (before < 0) {
                pairs--;
            } else {
                latest[pair] = before;
            }
            return pair;
        }

        /** The latest RENDERING of a PAIR that came at a TIME or ahead of it, or -1. */
        int renderingAt(int pair, int until) {
            for (int r = Math.min(until, time) - 1; r >= 0; r--) {
                if (pairOf[r] == pair) {
                    return r;
                }
            }
            return -1;
        }

        int renderingsOf(int pair) {
            int sum = 0;
            for (int r = 0; r < time; r++) {
                if (pairOf[r] == pair) {
                    sum++;
                }
            }
            return sum;
        }
    }

    /** The least sum of STEPS between two rows, and the STEPS of the latest telling. */
    private static final class Ladder {
        static final int KEPT = 0, CHANGED = 1, LEFT_OUT = 2, PUT_IN = 3;
        static final int WIDTH = MOST_SOLID + 1;
        // above every sum that can be
        static final int NO_WAY = 1000000;

        // sums[i * WIDTH + j]: the least sum from the pieces from i on to those from j on
        final int[] sums = new int[WIDTH * WIDTH];
        final int[] sorts = new int[2 * MOST_SOLID];
        final int[] lefts = new int[2 * MOST_SOLID];
        final int[] rights = new int[2 * MOST_SOLID];
        int steps;

        int leastSum(Row a, Row b) {
            for (int i = a.solid; i >= 0; i--) {
                for (int j = b.solid; j >= 0; j--) {
                    boolean hasLeft = i < a.solid;
                    boolean hasRight = j < b.solid;
                    int least = hasLeft || hasRight ? NO_WAY : 0;
                    if (hasLeft && hasRight) {
                        least = a.changeCost(i, b, j) + sums[(i + 1) * WIDTH + j + 1];
                    }
                    if (hasLeft) {
                        least = Math.min(least, a.aloneCost(i) + sums[(i + 1) * WIDTH + j]);
                    }
                    if (hasRight) {
                        least = Math.min(least, b.aloneCost(j) + sums[i * WIDTH + j + 1]);
                    }
                    sums[i * WIDTH + j] = least;
                }
            }
            return sums[0];
        }

        /** From the begin on, for the first place where two rows of STEPS differ decides. */
        void tell(Row a, Row b) {
            leastSum(a, b);
            steps = 0;
            int i = 0;
            int j = 0;
            for (int n = 0; n < sorts.length && (i < a.solid || j < b.solid); n++) {
                int rest = sums[i * WIDTH + j];
                int both = i < a.solid && j < b.solid ? a.changeCost(i, b, j) : NO_WAY;
                if (both != NO_WAY && both + sums[(i + 1) * WIDTH + j + 1] == rest) {
                    addStep(both == 0 ? KEPT : CHANGED, i, j);
                    i++;
                    j++;
                } else if (i < a.solid && a.aloneCost(i) + sums[(i + 1) * WIDTH + j] == rest) {
                    addStep(LEFT_OUT, i, NONE);
                    i++;
                } else {
                    addStep(PUT_IN, NONE, j);
                    j++;
                }
            }
        }

        void addStep(int sort, int left, int right) {
            sorts[steps] = sort;
            lefts[steps] = left;
            rights[steps] = right;
            steps++;
        }
    }

    /** SCORES, each measured once for as long as its SEGMENT and its PAIR stay. */
    private static final class Nearness {
        static final int UNKNOWN = -1;

        final int[] known = new int[MOST_PAIRS * MOST_SEGMENTS];
        final Ladder ladder;

        Nearness(Ladder ladder) {
            this.ladder = ladder;
            forgetAll();
        }

        void forgetAll() {
            Arrays.fill(known, UNKNOWN);
        }

        void forgetPair(int pair) {
            for (int s = 0; s < MOST_SEGMENTS; s++) {
                known[pair * MOST_SEGMENTS + s] = UNKNOWN;
            }
        }

        int between(int pair, Row source, int s, Row segment) {
            int place = pair * MOST_SEGMENTS + s;
            if (known[place] == UNKNOWN) {
                int n = Math.max(source.solid, segment.solid);
                known[place] = n == 0 ? 100 : Math.max(0, 100 - 10 * ladder.leastSum(source, segment) / n);
            }
            return known[place];
        }
    }

    /** Makes a RENDERING anew with a SEGMENT's NUMBERS and MARKS. */
    private static final class Patcher {
        static final int LONGEST_NUMBER = 14;
        static final int NOWHERE = -1;

        // each NUMBER serves once, so this has room for every outcome, and FULL is told only at the end
        final Text out = new Text(TAPE_ROOM + MOST_SOLID * LONGEST_NUMBER);
        final int[] digitTo = new int[10];
        final boolean[] served = new boolean[MOST_SOLID];

        /** False if it FAILS. */
        boolean make(Row rendering, Row source, Row segment) {
            out.size = 0;
            forgetServed();
            if (!matchDigits(source, segment)) {
                return false;
            }
            int done = rendering.from;
            for (int i = 0; i < rendering.solid; i++) {
                boolean isMark = rendering.isMark(i);
                if (isMark || rendering.kinds[i] == NUMBER) {
                    copy(rendering.text, done, rendering.begins[i]);
                    done = rendering.begins[i] + rendering.lengths[i];
                    if (!(isMark ? putMark(rendering, i) : putNumber(rendering, i, source, segment))) {
                        return false;
                    }
                }
            }
            copy(rendering.text, done, rendering.to);
            return haveAllServed(source);
        }

        void forgetServed() {
            for (int k = 0; k < MOST_SOLID; k++) {
                served[k] = false;
            }
        }

        /** False if a digit goes to two. */
        boolean matchDigits(Row source, Row segment) {
            Arrays.fill(digitTo, NOWHERE);
            for (int k = 0; k < source.solid; k++) {
                if (source.isMark(k)) {
                    int old = source.digit(k);
                    int now = segment.digit(k);
                    if (digitTo[old] != NOWHERE && digitTo[old] != now) {
                        return false;
                    }
                    digitTo[old] = now;
                }
            }
            return true;
        }

        void copy(Text text, int begin, int end) {
            for (int i = begin; i < end; i++) {
                out.put(text.at(i));
            }
        }

        boolean putMark(Row rendering, int i) {
            int now = digitTo[rendering.digit(i)];
            if (now == NOWHERE) {
                return false;
            }
            int place = rendering.digitPlace(i);
            copy(rendering.text, rendering.begins[i], place);
            out.put('0' + now);
            copy(rendering.text, place + 1, rendering.begins[i] + rendering.lengths[i]);
            return true;
        }

        boolean putNumber(Row rendering, int i, Row source, Row segment) {
            for (int k = 0; k < source.solid; k++) {
                if (source.kinds[k] == NUMBER && !served[k] && readsSame(rendering, i, source, k)) {
                    served[k] = true;
                    copyNumber(segment, k);
                    return true;
                }
            }
            return false;
        }

        static boolean readsSame(Row rendering, int i, Row source, int k) {
            if (rendering.lengths[i] != source.lengths[k]) {
                return false;
            }
            for (int at = 0; at < source.lengths[k]; at++) {
                int due = inRendering(source.text.at(source.begins[k] + at));
                if (rendering.text.at(rendering.begins[i] + at) != due) {
                    return false;
                }
            }
            return true;
        }

        void copyNumber(Row segment, int k) {
            for (int at = 0; at < segment.lengths[k]; at++) {
                out.put(inRendering(segment.text.at(segment.begins[k] + at)));
            }
        }

        /** A byte of a NUMBER of THE BOOK's TONGUE in that of renderings. */
        static int inRendering(int b) {
            return b == BOOK_POINT ? RENDERING_POINT : b;
        }

        boolean haveAllServed(Row source) {
            for (int k = 0; k < source.solid; k++) {
                if (source.kinds[k] == NUMBER && !served[k]) {
                    return false;
                }
            }
            return true;
        }
    }
}
