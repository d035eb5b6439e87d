import java.util.Arrays;

/**
 * A table with heaps of cards that turn themselves: as many as the top card says are turned over
 * as a block, again and again, till the ace comes up. See ../shared/DOC.md and README.md.
 */
public final class TopSays {
    public static final int NONE = -1;

    private static final int WRONG_NUMBER = -1;
    private static final int NO_SUCH = -2;
    private static final int CANNOT_BE = -3;
    private static final int NO_ROOM = -5;
    private static final int WRONG_TEXT = -6;
    private static final int WITHOUT = -1001;

    private static final int MOST_BYTES = 400;
    private static final int FED_BYTES = 20;
    private static final int MOST_HEAPS = 6;
    private static final int MOST_CARDS = 13;
    private static final int HIGHEST_CARD = 13;
    private static final int MOST_CLAPS = 9999;
    private static final int MOST_SIGHTS = 8;
    private static final int MOST_LAWS = 6;
    private static final int MOST_IMAGES = 2;
    private static final int MOST_STEPS = 300;
    private static final int LATEST_SIGHT = 99;
    private static final int MOST_EVENINGS = 60;
    private static final int HIGHEST_SEED = 1000000;
    private static final int FEW_CARDS = 7;

    private static final int ENDS = 0;
    private static final int STICKS = 1;
    private static final int ROUND = 2;
    private static final int GOING = 3;

    private static final int STEPPED = 0;
    private static final int SWAPPED = 1;
    private static final int CUT = 2;

    private final Tape tape;
    private final Table table;
    private final Table[] images;
    private final boolean[] kept;
    private final Past past;
    private final Reader reader;
    private final Steps steps;
    private final Hands hands;
    private final Ways ways;
    private final Sorter sorter;
    private final Evenings latest;
    private final Row paper;
    private final int[] refused;
    private int readFault;
    private int refusal;

    /** A table without heaps. */
    public TopSays() {
        tape = new Tape();
        table = new Table();
        images = new Table[MOST_IMAGES];
        for (int k = 0; k < images.length; k++) {
            images[k] = new Table();
        }
        kept = new boolean[MOST_IMAGES];
        past = new Past();
        reader = new Reader(tape);
        steps = new Steps(table);
        hands = new Hands(table, past, steps);
        ways = new Ways(table, steps);
        sorter = new Sorter();
        latest = new Evenings(steps);
        paper = new Row();
        refused = new int[-WRONG_TEXT + 1];
        readFault = NONE;
        refusal = 0;
    }

    public int feed(int a, int b, int c, int d, int e) {
        if (tape.length > MOST_BYTES - FED_BYTES) {
            return NONE;
        }
        tape.addFour(a);
        tape.addFour(b);
        tape.addFour(c);
        tape.addFour(d);
        tape.addFour(e);
        return tape.length;
    }

    public int end(int n) {
        if (n < 0 || n > tape.length) {
            return NONE;
        }
        tape.length = n;
        return n;
    }

    public int heap() {
        int bytes = tape.length;
        tape.length = 0;
        if (table.many >= MOST_HEAPS) {
            return refuse(NO_ROOM);
        }
        if (!tape.holdsCards(bytes)) {
            return refuse(WRONG_TEXT);
        }
        past.clear();
        return answer(table.addHeap(tape.bytes, bytes));
    }

    public int of(int heap, int what) {
        Row row = table.at(heap);
        if (row == null || what < 0) {
            return WITHOUT;
        }
        switch (what) {
            case 0:
                return row.many;
            case 1:
                return row.claps;
            case 2:
                return row.last;
            case 3:
                return steps.look(row) == ENDS ? 1 : 0;
            case 4:
                return steps.look(row) == STICKS ? 1 : 0;
            case 5:
                steps.look(row);
                return nearest(steps.turns);
            case 6:
                steps.look(row);
                return nearest(steps.sinks);
            default:
                return what - 7 < row.many ? row.card(what - 7) : WITHOUT;
        }
    }

    public int terms(int what, int value) {
        int was;
        if (what == 0 && value >= 0 && value <= 9) {
            was = table.mood;
            table.mood = value;
        } else if (what == 1 && value >= 1 && value <= MOST_STEPS) {
            was = table.ahead;
            table.ahead = value;
        } else {
            return refuse(WRONG_NUMBER);
        }
        past.clear();
        return answer(was);
    }

    public int law() {
        if (table.laws >= MOST_LAWS) {
            tape.length = 0;
            return refuse(NO_ROOM);
        }
        readFault = reader.read(false);
        tape.length = 0;
        if (readFault != NONE) {
            return refuse(WRONG_TEXT);
        }
        return answer(table.addLaw(reader.text.trimmed()));
    }

    public int orders() {
        hands.stopped = NONE;
        readFault = reader.read(true);
        tape.length = 0;
        if (readFault != NONE) {
            return refuse(WRONG_TEXT);
        }
        int run = hands.run(reader.text);
        return run < 0 ? refuse(run) : answer(run);
    }

    public int fault() {
        return readFault;
    }

    public int stopped() {
        return hands.stopped;
    }

    public int force(int law) {
        if (law < NONE || law >= table.laws) {
            return refuse(NO_SUCH);
        }
        int was = table.force;
        table.force = law;
        return answer(was);
    }

    public int step(int heap) {
        int claps = hands.tread(heap);
        return claps < 0 ? refuse(claps) : answer(claps);
    }

    public int swap(int heap, int one, int other) {
        int top = hands.exchange(heap, one, other);
        return top < 0 ? refuse(top) : answer(top);
    }

    public int cut(int heap, int many) {
        int top = hands.lift(heap, many);
        return top < 0 ? refuse(top) : answer(top);
    }

    public int undo() {
        if (past.many == 0) {
            return refuse(CANNOT_BE);
        }
        return answer(past.takeBack(table));
    }

    public int goes(int heap, int what) {
        Row row = table.at(heap);
        if (row == null || what < 0 || what > 2) {
            return NONE;
        }
        paper.copy(row);
        steps.goOn(paper);
        if (what == 0) {
            return steps.how;
        }
        return what == 1 ? steps.behind : steps.first;
    }

    public int after(int heap, int n, int place) {
        Row row = table.at(heap);
        if (row == null || n < 0 || n > MOST_STEPS) {
            return NONE;
        }
        paper.copy(row);
        for (int i = 0; i < n && steps.look(paper) == GOING; i++) {
            steps.make(paper);
        }
        return paper.card(place);
    }

    public int longest(int n, int what) {
        if (n < 1 || n > FEW_CARDS || what < 0) {
            return NONE;
        }
        paper.rise(n);
        ways.survey(paper);
        if (ways.longest == NONE || what == 0) {
            return ways.longest;
        }
        return what == 1 ? ways.soLong : ways.cardOf(ways.firstLongest, what - 2);
    }

    public int orderly(int n, int what) {
        if (n < 1 || n > FEW_CARDS || what < 0 || what >= ways.counts.length) {
            return NONE;
        }
        paper.rise(n);
        ways.survey(paper);
        return ways.counts[what];
    }

    public int to(int heap, int i, int place) {
        Row row = table.at(heap);
        if (row == null || row.many > FEW_CARDS || i < NONE) {
            return NONE;
        }
        return ways.leading(row, i, place);
    }

    public int cheat(int heap, int what) {
        Row row = table.at(heap);
        if (row == null || what < 0 || what > 2) {
            return NONE;
        }
        steps.lookForCheat(row, paper);
        if (what == 0) {
            return steps.most;
        }
        return what == 1 ? steps.one : steps.other;
    }

    public int odds(int heap, int seen, int c, int what) {
        Row row = table.at(heap);
        if (row == null || row.many > FEW_CARDS || seen < 0 || seen > row.many) {
            return NONE;
        }
        if (c < 0 || c > MOST_STEPS || what < 0 || what > 1) {
            return NONE;
        }
        ways.weigh(row, seen, c);
        return what == 0 ? ways.upper : ways.lower;
    }

    public int sight(int k, int card) {
        if (k < 0 || k > LATEST_SIGHT || card < 0 || card > HIGHEST_CARD) {
            return refuse(WRONG_NUMBER);
        }
        if (table.sights >= MOST_SIGHTS) {
            return refuse(NO_ROOM);
        }
        return answer(table.addSight(k, card));
    }

    public int forget() {
        int were = table.sights;
        table.sights = 0;
        return were;
    }

    public int fits(int heap, int i, int place) {
        Row row = table.at(heap);
        if (row == null || row.many > FEW_CARDS || i < NONE) {
            return NONE;
        }
        return ways.fitting(row, i, place);
    }

    public int race(int one, int other) {
        Row first = table.at(one);
        Row second = table.at(other);
        if (first == null || second == null) {
            return NONE;
        }
        paper.copy(first);
        int mine = steps.endsBehind(paper);
        paper.copy(second);
        int yours = steps.endsBehind(paper);
        if (mine == yours) {
            return mine == NONE ? NONE : 2;
        }
        if (mine == NONE) {
            return 1;
        }
        return yours == NONE || mine < yours ? 0 : 1;
    }

    public int sorted(int heap, int what) {
        Row row = table.at(heap);
        if (row == null || row.many > FEW_CARDS || what < 0) {
            return NONE;
        }
        paper.copy(row);
        sorter.putInOrder(paper);
        return what == 0 ? sorter.fewest : sorter.block(what - 1);
    }

    public int evenings(int heap, int seed, int n) {
        Row row = table.at(heap);
        if (row == null) {
            return refuse(NO_SUCH);
        }
        if (seed < 0 || seed > HIGHEST_SEED || n < 1 || n > MOST_EVENINGS) {
            return refuse(WRONG_NUMBER);
        }
        paper.copy(row);
        return answer(latest.hold(paper, seed, n));
    }

    public int drawn(int what) {
        if (!latest.held || what < 0) {
            return NONE;
        }
        if (what == 0) {
            return latest.together;
        }
        return what == 1 ? latest.most : latest.beginning.card(what - 2);
    }

    public int image(int k) {
        if (k < 0 || k >= images.length) {
            return refuse(WRONG_NUMBER);
        }
        images[k].copy(table);
        kept[k] = true;
        return answer(0);
    }

    public int back(int k) {
        if (k < 0 || k >= images.length) {
            return refuse(WRONG_NUMBER);
        }
        if (!kept[k]) {
            return refuse(NO_SUCH);
        }
        table.copy(images[k]);
        past.clear();
        return answer(0);
    }

    public int count(int what) {
        switch (what) {
            case 0:
                return table.many;
            case 1:
                return table.sights;
            case 2:
                return table.laws;
            case 3:
                return past.many;
            case 4:
                return tape.length;
            case 5:
                return refused[-WRONG_NUMBER];
            case 6:
                return refused[-NO_SUCH];
            case 7:
                return refused[-CANNOT_BE];
            case 8:
                return refused[-NO_ROOM];
            case 9:
                return refused[-WRONG_TEXT];
            case 10:
                return table.force;
            case 11:
                return table.mood;
            case 12:
                return table.ahead;
            default:
                return NONE;
        }
    }

    public int status() {
        return refusal;
    }

    private int refuse(int code) {
        refusal = code;
        if (code < 0 && code >= WRONG_TEXT) {
            refused[-code]++;
        }
        return code;
    }

    private int answer(int value) {
        refusal = 0;
        return value;
    }

    private static int nearest(int value) {
        return Math.max(-1000, Math.min(1000, value));
    }

    /** Cards in a row, the top one first, with what a heap remembers of its steps. */
    private static final class Row {
        final int[] cards = new int[MOST_CARDS];
        int many;
        int claps;
        int last;
        int number = NONE;

        void copy(Row other) {
            System.arraycopy(other.cards, 0, cards, 0, MOST_CARDS);
            many = other.many;
            claps = other.claps;
            last = other.last;
            number = other.number;
        }

        /** The row 1 .. n, which is no heap. */
        void rise(int n) {
            many = Math.max(0, Math.min(n, MOST_CARDS));
            for (int i = 0; i < many; i++) {
                cards[i] = i + 1;
            }
            claps = 0;
            last = 0;
            number = NONE;
        }

        int card(int place) {
            return place >= 0 && place < many ? cards[place] : NONE;
        }

        boolean has(int place) {
            return place >= 0 && place < many;
        }

        void exchange(int one, int other) {
            if (has(one) && has(other)) {
                int card = cards[one];
                cards[one] = cards[other];
                cards[other] = card;
            }
        }

        void reverse(int from, int till) {
            int high = Math.min(till, many - 1);
            for (int low = Math.max(from, 0); low < high; low++) {
                int card = cards[low];
                cards[low] = cards[high];
                cards[high] = card;
                high--;
            }
        }

        /** Puts the upper n beneath all others as they lie: three turnings need no second row. */
        void lower(int n) {
            reverse(0, n - 1);
            reverse(n, many - 1);
            reverse(0, many - 1);
        }

        /** Sorts the cards from a place on. */
        void order(int from) {
            for (int i = Math.max(from, 0) + 1; i < many; i++) {
                for (int j = i; j > from && j > 0 && cards[j - 1] > cards[j]; j--) {
                    exchange(j - 1, j);
                }
            }
        }

        /** The next unlike row by the cards from a place on; false if this was the last one. */
        boolean advance(int from) {
            int low = many - 2;
            while (low >= from && low >= 0 && cards[low] >= cards[low + 1]) {
                low--;
            }
            if (low < from || low < 0) {
                return false;
            }
            int high = many - 1;
            while (high > low && cards[high] <= cards[low]) {
                high--;
            }
            exchange(low, high);
            reverse(low + 1, many - 1);
            return true;
        }

        boolean rises() {
            for (int i = 1; i < many; i++) {
                if (cards[i - 1] > cards[i]) {
                    return false;
                }
            }
            return true;
        }

        /** Cards and last in one number, four bits each: by this two times are told to be alike. */
        long packed() {
            long all = last;
            for (int i = 0; i < many; i++) {
                all = all << 4 | cards[i];
            }
            return all;
        }
    }

    /** The tape, and its tokens one after another. */
    private static final class Tape {
        static final int LETTERS = 1;
        static final int DIGITS = 2;
        static final int SIGN = 3;
        static final int OVER = 4;
        static final int TOO_HIGH = 1001;

        final byte[] bytes = new byte[MOST_BYTES];
        int length;
        int kind;
        int place;
        private int next;

        void addFour(int number) {
            for (int shift = 24; shift >= 0; shift -= 8) {
                if (length < MOST_BYTES) {
                    bytes[length] = (byte) (number >> shift);
                    length++;
                }
            }
        }

        boolean holdsCards(int many) {
            if (many < 1 || many > MOST_CARDS) {
                return false;
            }
            for (int i = 0; i < many; i++) {
                if (bytes[i] < 0 || bytes[i] > HIGHEST_CARD) {
                    return false;
                }
            }
            return true;
        }

        void rewind() {
            next = 0;
            go();
        }

        /** Takes the next token. */
        void go() {
            place = next;
            while (place < length && bytes[place] == ' ') {
                place++;
            }
            if (place >= length) {
                kind = OVER;
                next = place;
                return;
            }
            int sign = bytes[place];
            boolean letter = sign >= 'a' && sign <= 'z';
            boolean digit = sign >= '0' && sign <= '9';
            kind = letter ? LETTERS : digit ? DIGITS : SIGN;
            int low = letter ? 'a' : '0';
            int high = letter ? 'z' : '9';
            next = place + 1;
            while (kind != SIGN && next < length && bytes[next] >= low && bytes[next] <= high) {
                next++;
            }
        }

        boolean isSign(char sign) {
            return kind == SIGN && place < length && bytes[place] == sign;
        }

        boolean isWord(String word) {
            return among(word) == 0;
        }

        /** Which of the words, parted by single blanks, the token is. */
        int among(String words) {
            int which = 0;
            int from = 0;
            boolean alike = kind == LETTERS;
            for (int i = 0; i <= words.length() && kind == LETTERS; i++) {
                if (i == words.length() || words.charAt(i) == ' ') {
                    if (alike && i - from == next - place) {
                        return which;
                    }
                    which++;
                    from = i + 1;
                    alike = true;
                } else {
                    int at = place + i - from;
                    alike = alike && at < next && at < length && bytes[at] == words.charAt(i);
                }
            }
            return NONE;
        }

        /** The token's number, TOO_HIGH for all above 1,000; NONE if it is none. */
        int number() {
            if (kind != DIGITS) {
                return NONE;
            }
            int number = 0;
            for (int i = place; i < next && i < length; i++) {
                number = Math.min(number * 10 + bytes[i] - '0', TOO_HIGH);
            }
            return number;
        }
    }

    /** A text that was read: its clauses, their sums and tests as code for a machine with a stack. */
    private static final class Text {
        static final int MOST_CLAUSES = 12;
        static final int MOST_SUMS = 3;
        static final int MOST_CODES = 512;
        static final int DEEPEST = 64;
        static final int BROKEN = -2147483648;
        static final long FARTHEST = 1000000000L;

        static final int TURNS = 0;
        static final int SINKS = 1;
        static final int ENDING = 2;

        static final int STOP = 0;
        static final int NUMBER = 1;
        static final int WORD = 2;
        static final int PLUS = 3;
        static final int MINUS = 4;
        static final int TIMES = 5;
        static final int DIVIDED = 6;
        static final int LEFT = 7;
        static final int BELOW = 8;
        static final int ABOVE = 9;
        static final int EQUAL = 10;
        static final int NOT = 11;
        static final int OR = 12;
        static final int AND = 13;

        private int[] codes;
        private int length;
        int clauses;
        private int[] kinds;
        private int[] sums;
        private int[] tests;
        private int[] times;
        private int[] stack;
        boolean asksLast;

        Text() {
            codes = new int[MOST_CODES];
            kinds = new int[MOST_CLAUSES];
            sums = new int[MOST_CLAUSES * MOST_SUMS];
            tests = new int[MOST_CLAUSES];
            times = new int[MOST_CLAUSES];
            stack = new int[DEEPEST];
        }

        /** A copy that takes no more room than it needs; the stack is shared, it holds nothing between two questions. */
        Text(Text other) {
            length = Math.max(0, Math.min(other.length, other.codes.length));
            clauses = Math.max(0, Math.min(other.clauses, MOST_CLAUSES));
            codes = new int[length];
            System.arraycopy(other.codes, 0, codes, 0, length);
            kinds = new int[clauses];
            System.arraycopy(other.kinds, 0, kinds, 0, clauses);
            sums = new int[clauses * MOST_SUMS];
            System.arraycopy(other.sums, 0, sums, 0, clauses * MOST_SUMS);
            tests = new int[clauses];
            System.arraycopy(other.tests, 0, tests, 0, clauses);
            times = new int[clauses];
            System.arraycopy(other.times, 0, times, 0, clauses);
            stack = other.stack;
            asksLast = other.asksLast;
        }

        Text trimmed() {
            return new Text(this);
        }

        void clear() {
            length = 0;
            clauses = 0;
            asksLast = false;
        }

        /** Begins a clause: without sums and test, once. */
        void begin(int kind) {
            if (clauses < kinds.length) {
                kinds[clauses] = kind;
                tests[clauses] = NONE;
                times[clauses] = 1;
                clauses++;
            }
        }

        void setSum(int i) {
            if (clauses > 0 && i >= 0 && i < MOST_SUMS) {
                sums[(clauses - 1) * MOST_SUMS + i] = length;
            }
        }

        void setTest() {
            if (clauses > 0) {
                tests[clauses - 1] = length;
            }
        }

        void setTimes(int often) {
            if (clauses > 0) {
                times[clauses - 1] = often;
            }
        }

        /** Adds a code; its place. */
        int add(int code, int argument) {
            if (length < codes.length) {
                codes[length] = code | argument << 4;
                length++;
            }
            return length - 1;
        }

        /** The jump at a place goes behind all that was added since. */
        void land(int place) {
            if (place >= 0 && place < length) {
                codes[place] = codes[place] & 15 | length << 4;
            }
        }

        int kindOf(int clause) {
            return clause >= 0 && clause < clauses ? kinds[clause] : NONE;
        }

        int timesOf(int clause) {
            return clause >= 0 && clause < clauses ? times[clause] : 0;
        }

        boolean isSo(int clause, int[] words) {
            if (clause < 0 || clause >= clauses) {
                return false;
            }
            return tests[clause] == NONE || ask(tests[clause], words) == 1;
        }

        int sumOf(int clause, int i, int[] words) {
            if (clause < 0 || clause >= clauses || i < 0 || i >= MOST_SUMS) {
                return BROKEN;
            }
            return ask(sums[clause * MOST_SUMS + i], words);
        }

        /** What the last clause of a kind that holds tells. */
        int latestOf(int kind, int[] words, int without) {
            for (int c = clauses - 1; c >= 0; c--) {
                if (kinds[c] == kind && (tests[c] == NONE || ask(tests[c], words) == 1)) {
                    int told = ask(sums[c * MOST_SUMS], words);
                    if (told != BROKEN) {
                        return told;
                    }
                }
            }
            return without;
        }

        /** Whether a clause of "ends" holds; without such clauses the ace ends it. */
        boolean hasEnded(int[] words, boolean ace) {
            boolean none = true;
            for (int c = 0; c < clauses; c++) {
                if (kinds[c] == ENDING) {
                    if (tests[c] == NONE || ask(tests[c], words) == 1) {
                        return true;
                    }
                    none = false;
                }
            }
            return none && ace;
        }

        /** Runs the code from a place to its STOP: a number, or 1, 0 for a test, or BROKEN. */
        private int ask(int from, int[] words) {
            int high = -1;
            for (int at = Math.max(from, 0); at < length; at++) {
                int code = codes[at] & 15;
                int argument = codes[at] >> 4;
                if (code == STOP) {
                    return high >= 0 ? stack[high] : BROKEN;
                }
                if (code == NUMBER || code == WORD) {
                    if (high + 1 >= stack.length) {
                        return BROKEN;
                    }
                    high++;
                    boolean word = code == WORD && argument >= 0 && argument < words.length;
                    stack[high] = word ? words[argument] : argument;
                } else if (code == NOT && high >= 0) {
                    stack[high] = 1 - stack[high];
                } else if ((code == OR || code == AND) && high >= 0) {
                    // An or that is so, an and that is not are settled: the jump leaves the answer where it is.
                    if (stack[high] == (code == OR ? 1 : 0)) {
                        at = Math.max(at, argument - 1);
                    } else {
                        high--;
                    }
                } else if (high >= 1) {
                    high--;
                    long told = join(code, stack[high], stack[high + 1]);
                    if (told < -FARTHEST || told > FARTHEST) {
                        return BROKEN;
                    }
                    stack[high] = (int) told;
                } else {
                    return BROKEN;
                }
            }
            return BROKEN;
        }

        /** Two numbers joined by a sign; BROKEN lies beyond all that may be told. */
        private static long join(int code, long a, long b) {
            switch (code) {
                case PLUS:
                    return a + b;
                case MINUS:
                    return a - b;
                case TIMES:
                    return a * b;
                case DIVIDED:
                    return b == 0 ? BROKEN : a / b;
                case LEFT:
                    return b == 0 ? BROKEN : a % b;
                case BELOW:
                    return a < b ? 1 : 0;
                case ABOVE:
                    return a > b ? 1 : 0;
                case EQUAL:
                    return a == b ? 1 : 0;
                default:
                    return BROKEN;
            }
        }
    }

    /** Reads laws and orders from the tape. Where it fails, the tape's token is the fault. */
    private static final class Reader {
        static final int MOST_PARTS = 50;
        static final int MOST_BRACKETS = 8;
        static final int MOST_TIMES = 20;
        static final int HIGHEST_NUMBER = 1000;
        static final int LAST_WORD = 5;
        static final int TOP_WORD = 3;
        static final String LAW_WORDS = "top second third under many last heap mood";
        static final String ORDER_WORDS = "heaps done latest top claps many";

        final Text text = new Text();
        private final Tape tape;
        private boolean ofOrders;
        private int parts;

        Reader(Tape tape) {
            this.tape = tape;
        }

        /** The place of the fault; NONE, if the text could be read. */
        int read(boolean orders) {
            ofOrders = orders;
            parts = 0;
            text.clear();
            tape.rewind();
            for (int i = 0; i < Text.MOST_CLAUSES; i++) {
                boolean good = orders ? readOrder() : readRule();
                if (good && tape.kind == Tape.OVER) {
                    return NONE;
                }
                if (!good || !takeSign(';')) {
                    return tape.place;
                }
            }
            return tape.place;
        }

        private boolean readRule() {
            int kind = tape.among("turns sinks ends");
            if (kind == NONE) {
                return false;
            }
            text.begin(kind);
            tape.go();
            return (kind == Text.ENDING || readSum(0)) && readIf();
        }

        private boolean readOrder() {
            int kind = tape.among("step swap cut");
            if (kind == NONE) {
                return false;
            }
            text.begin(kind);
            tape.go();
            boolean good = readSum(0);
            if (kind == SWAPPED) {
                good = good && take("with") && readSum(1) && take("of") && readSum(2);
            } else if (kind == CUT) {
                good = good && take("of") && readSum(1);
            }
            return good && readTimes() && readIf();
        }

        private boolean take(String word) {
            if (!tape.isWord(word)) {
                return false;
            }
            tape.go();
            return true;
        }

        private boolean takeSign(char sign) {
            if (!tape.isSign(sign)) {
                return false;
            }
            tape.go();
            return true;
        }

        private boolean readTimes() {
            if (!take("times")) {
                return true;
            }
            int often = tape.number();
            if (often < 1 || often > MOST_TIMES) {
                return false;
            }
            text.setTimes(often);
            tape.go();
            return true;
        }

        private boolean readIf() {
            if (!take("if")) {
                return true;
            }
            text.setTest();
            boolean good = test(0);
            text.add(Text.STOP, 0);
            return good;
        }

        private boolean readSum(int i) {
            text.setSum(i);
            boolean good = sum(0);
            text.add(Text.STOP, 0);
            return good;
        }

        private boolean test(int depth) {
            boolean good = both(depth);
            for (int i = 0; i < MOST_BYTES && good && tape.isWord("or"); i++) {
                tape.go();
                int jump = text.add(Text.OR, 0);
                good = both(depth);
                text.land(jump);
            }
            return good;
        }

        private boolean both(int depth) {
            boolean good = plain(depth);
            for (int i = 0; i < MOST_BYTES && good && tape.isWord("and"); i++) {
                tape.go();
                int jump = text.add(Text.AND, 0);
                good = plain(depth);
                text.land(jump);
            }
            return good;
        }

        /** Many a "not" is counted, not gone into: so brackets alone go deeper. */
        private boolean plain(int depth) {
            boolean not = false;
            for (int i = 0; i < MOST_BYTES && tape.isWord("not"); i++) {
                not = !not;
                tape.go();
            }
            boolean good;
            if (tape.isSign('(')) {
                good = depth < MOST_BRACKETS && takeSign('(') && test(depth + 1) && takeSign(')');
            } else {
                int code = sum(depth) ? comparison() : NONE;
                good = code != NONE && sum(depth);
                text.add(Math.max(code, Text.STOP), 0);
            }
            if (not) {
                text.add(Text.NOT, 0);
            }
            return good;
        }

        /** Takes the sign that compares two sums: its code. */
        private int comparison() {
            int code = NONE;
            if (tape.isSign('<')) {
                code = Text.BELOW;
            } else if (tape.isSign('>')) {
                code = Text.ABOVE;
            } else if (tape.isSign('=')) {
                code = Text.EQUAL;
            }
            if (code != NONE) {
                tape.go();
            }
            return code;
        }

        private boolean sum(int depth) {
            boolean good = term(depth);
            for (int i = 0; i < MOST_BYTES && good && (tape.isSign('+') || tape.isSign('-')); i++) {
                int code = tape.isSign('+') ? Text.PLUS : Text.MINUS;
                tape.go();
                good = term(depth);
                text.add(code, 0);
            }
            return good;
        }

        private boolean term(int depth) {
            boolean good = part(depth);
            int code = multiplying();
            for (int i = 0; i < MOST_BYTES && good && code != NONE; i++) {
                tape.go();
                good = part(depth);
                text.add(code, 0);
                code = multiplying();
            }
            return good;
        }

        private int multiplying() {
            if (tape.isSign('*')) {
                return Text.TIMES;
            }
            if (tape.isSign('/')) {
                return Text.DIVIDED;
            }
            return tape.isSign('%') ? Text.LEFT : NONE;
        }

        private boolean part(int depth) {
            if (tape.isSign('[')) {
                return depth < MOST_BRACKETS && takeSign('[') && sum(depth + 1) && takeSign(']');
            }
            if (parts >= MOST_PARTS) {
                return false;
            }
            parts++;
            if (tape.kind == Tape.DIGITS) {
                return number();
            }
            return ofOrders ? orderWord() : lawWord();
        }

        private boolean number() {
            int number = tape.number();
            if (number < 0 || number > HIGHEST_NUMBER) {
                return false;
            }
            text.add(Text.NUMBER, number);
            tape.go();
            return true;
        }

        private boolean lawWord() {
            int word = tape.among(LAW_WORDS);
            if (word == NONE) {
                return false;
            }
            text.add(Text.WORD, word);
            text.asksLast = text.asksLast || word == LAST_WORD;
            tape.go();
            return true;
        }

        /** The words from "top" on have a heap's number behind them: each has six places. */
        private boolean orderWord() {
            int word = tape.among(ORDER_WORDS);
            if (word == NONE) {
                return false;
            }
            tape.go();
            if (word < TOP_WORD) {
                text.add(Text.WORD, word);
                return true;
            }
            int heap = tape.number();
            if (heap < 0 || heap >= MOST_HEAPS) {
                return false;
            }
            text.add(Text.WORD, TOP_WORD + (word - TOP_WORD) * MOST_HEAPS + heap);
            tape.go();
            return true;
        }
    }

    /** All that an image keeps: heaps, sights, laws and terms. */
    private static final class Table {
        int many;
        int sights;
        int laws;
        int force = NONE;
        int mood;
        int ahead = 200;
        private final Row[] heaps = new Row[MOST_HEAPS];
        private final int[] sightSteps = new int[MOST_SIGHTS];
        private final int[] sightCards = new int[MOST_SIGHTS];
        private final Text[] texts = new Text[MOST_LAWS];

        Table() {
            for (int i = 0; i < heaps.length; i++) {
                heaps[i] = new Row();
            }
        }

        void copy(Table other) {
            many = other.many;
            sights = other.sights;
            laws = other.laws;
            force = other.force;
            mood = other.mood;
            ahead = other.ahead;
            copyHeaps(other);
            System.arraycopy(other.sightSteps, 0, sightSteps, 0, MOST_SIGHTS);
            System.arraycopy(other.sightCards, 0, sightCards, 0, MOST_SIGHTS);
            for (int i = 0; i < texts.length; i++) {
                texts[i] = other.texts[i];
            }
        }

        void copyHeaps(Table other) {
            for (int i = 0; i < heaps.length; i++) {
                heaps[i].copy(other.heaps[i]);
            }
        }

        Row at(int heap) {
            return heap >= 0 && heap < many && heap < heaps.length ? heaps[heap] : null;
        }

        /** The law in force; null without. */
        Text inForce() {
            return force >= 0 && force < texts.length ? texts[force] : null;
        }

        int addHeap(byte[] cards, int length) {
            if (many >= heaps.length) {
                return NONE;
            }
            Row row = heaps[many];
            row.many = Math.max(0, Math.min(length, Math.min(MOST_CARDS, cards.length)));
            for (int i = 0; i < row.many; i++) {
                row.cards[i] = cards[i];
            }
            row.claps = 0;
            row.last = 0;
            row.number = many;
            many++;
            return row.number;
        }

        int addLaw(Text text) {
            if (laws >= texts.length) {
                return NONE;
            }
            texts[laws] = text;
            laws++;
            return laws - 1;
        }

        int addSight(int steps, int card) {
            if (sights < MOST_SIGHTS) {
                sightSteps[sights] = steps;
                sightCards[sights] = card;
                sights++;
            }
            return sights;
        }

        int stepsOf(int sight) {
            return sight >= 0 && sight < sights ? sightSteps[sight] : NONE;
        }

        int cardOf(int sight) {
            return sight >= 0 && sight < sights ? sightCards[sight] : NONE;
        }
    }

    /** What can be undone: heaps as they were ahead of the latest changes, in a ring. */
    private static final class Past {
        static final int MOST = 16;

        int many;
        private int next;
        private final Row[] rows = new Row[MOST];
        private final int[] kinds = new int[MOST];

        Past() {
            for (int i = 0; i < MOST; i++) {
                rows[i] = new Row();
            }
        }

        void clear() {
            many = 0;
            next = 0;
        }

        void copy(Past other) {
            many = other.many;
            next = other.next;
            for (int i = 0; i < MOST; i++) {
                rows[i].copy(other.rows[i]);
                kinds[i] = other.kinds[i];
            }
        }

        void keep(int kind, Row row) {
            if (next < 0 || next >= MOST) {
                next = 0;
            }
            rows[next].copy(row);
            kinds[next] = kind;
            next = (next + 1) % MOST;
            many = Math.min(many + 1, MOST);
        }

        /** Undoes the latest change: its kind. */
        int takeBack(Table table) {
            next = (next + MOST - 1) % MOST;
            many = Math.max(many - 1, 0);
            if (next < 0) {
                return NONE;
            }
            Row row = table.at(rows[next].number);
            if (row != null) {
                row.copy(rows[next]);
            }
            return kinds[next];
        }
    }

    /** Steps by the law in force, and how rows go on by them on paper. */
    private static final class Steps {
        int turns;
        int sinks;
        int how;
        int behind;
        int first;
        int most;
        int one;
        int other;
        private final Table table;
        private final int[] words = new int[8];
        private final long[] seen = new long[MOST_STEPS + 1];

        Steps(Table table) {
            this.table = table;
        }

        /** Whether a row has ended, sticks or goes on, and what it turns and sinks. */
        int look(Row row) {
            int top = row.card(0);
            boolean ended = top == 1;
            turns = top == 0 ? row.last : top;
            sinks = 0;
            Text law = table.inForce();
            if (law != null) {
                fillWords(row);
                turns = law.latestOf(Text.TURNS, words, turns);
                sinks = law.latestOf(Text.SINKS, words, 0);
                ended = law.hasEnded(words, ended);
            }
            if (ended) {
                return ENDS;
            }
            boolean can = turns >= 0 && turns <= row.many && sinks >= 0 && sinks <= row.many;
            return can ? GOING : STICKS;
        }

        private void fillWords(Row row) {
            words[0] = row.card(0);
            words[1] = row.card(1);
            words[2] = row.card(2);
            words[3] = row.card(row.many - 1);
            words[4] = row.many;
            words[5] = row.last;
            words[6] = row.number;
            words[7] = table.mood;
        }

        /** Makes the step that was looked at. */
        void make(Row row) {
            row.reverse(0, turns - 1);
            if (sinks > 0) {
                row.lower(sinks);
            }
            row.claps = Math.min(row.claps + 1, MOST_CLAPS);
            row.last = Math.min(turns, HIGHEST_CARD);
        }

        /** Lets a row go on: how it goes, behind how many steps, and behind how many it was so first. */
        void goOn(Row row) {
            int ahead = Math.min(table.ahead, MOST_STEPS);
            first = NONE;
            how = GOING;
            behind = 0;
            for (int i = 0; i <= ahead; i++) {
                behind = i;
                how = look(row);
                if (how != GOING) {
                    return;
                }
                seen[i] = row.packed();
                first = earlier(i);
                if (first != NONE) {
                    how = ROUND;
                    return;
                }
                if (i < ahead) {
                    make(row);
                }
            }
        }

        private int earlier(int now) {
            for (int i = 0; i < now && now < seen.length; i++) {
                if (seen[i] == seen[now]) {
                    return i;
                }
            }
            return NONE;
        }

        /** Behind how many steps a row ends; NONE if it does not. */
        int endsBehind(Row row) {
            int ahead = Math.min(table.ahead, MOST_STEPS);
            long mark = -1;
            for (int i = 0; i <= ahead; i++) {
                int now = look(row);
                if (now != GOING) {
                    return now == ENDS ? i : NONE;
                }
                // Looking back to the times 1, 2, 4 .. is enough to leave a round soon.
                long packed = row.packed();
                if (packed == mark) {
                    return NONE;
                }
                if ((i & i - 1) == 0) {
                    mark = packed;
                }
                make(row);
            }
            return NONE;
        }

        void lookForCheat(Row row, Row paper) {
            most = NONE;
            one = NONE;
            other = NONE;
            for (int i = 0; i < row.many; i++) {
                for (int j = i + 1; j < row.many; j++) {
                    if (row.card(i) != row.card(j)) {
                        paper.copy(row);
                        paper.exchange(i, j);
                        int ends = endsBehind(paper);
                        if (ends > most) {
                            most = ends;
                            one = i;
                            other = j;
                        }
                    }
                }
            }
        }
    }

    /** Changes of heaps that can be undone, by single calls and by orders. */
    private static final class Hands {
        static final int MOST_WORDS = 21;

        int stopped = NONE;
        private final Table table;
        private final Past past;
        private final Steps steps;
        private final Table tableBefore = new Table();
        private final Past pastBefore = new Past();
        private final int[] words = new int[MOST_WORDS];
        private int done;
        private int latest;

        Hands(Table table, Past past, Steps steps) {
            this.table = table;
            this.past = past;
            this.steps = steps;
        }

        /** A step: claps then. */
        int tread(int heap) {
            Row row = table.at(heap);
            if (row == null) {
                return NO_SUCH;
            }
            if (steps.look(row) != GOING) {
                return CANNOT_BE;
            }
            past.keep(STEPPED, row);
            steps.make(row);
            return row.claps;
        }

        /** A swap: the top then. */
        int exchange(int heap, int one, int other) {
            Row row = table.at(heap);
            if (row == null) {
                return NO_SUCH;
            }
            if (one == other || !row.has(one) || !row.has(other)) {
                return WRONG_NUMBER;
            }
            past.keep(SWAPPED, row);
            row.exchange(one, other);
            return row.card(0);
        }

        /** A cut: the top then. */
        int lift(int heap, int many) {
            Row row = table.at(heap);
            if (row == null) {
                return NO_SUCH;
            }
            if (many < 1 || many > row.many) {
                return WRONG_NUMBER;
            }
            past.keep(CUT, row);
            row.lower(many);
            return row.card(0);
        }

        /** Runs orders wholly or not at all: how many were run. */
        int run(Text text) {
            tableBefore.copyHeaps(table);
            pastBefore.copy(past);
            done = 0;
            latest = NONE;
            for (int c = 0; c < text.clauses; c++) {
                for (int i = 0; i < text.timesOf(c); i++) {
                    if (!runOnce(text, c)) {
                        table.copyHeaps(tableBefore);
                        past.copy(pastBefore);
                        stopped = c;
                        return CANNOT_BE;
                    }
                }
            }
            return done;
        }

        /** False, if the clause can't be; one whose "if" is not so is passed over. */
        private boolean runOnce(Text text, int clause) {
            fillWords();
            if (!text.isSo(clause, words)) {
                return true;
            }
            int kind = text.kindOf(clause);
            int a = text.sumOf(clause, 0, words);
            int b = kind == STEPPED ? 0 : text.sumOf(clause, 1, words);
            int c = kind == SWAPPED ? text.sumOf(clause, 2, words) : 0;
            if (a == Text.BROKEN || b == Text.BROKEN || c == Text.BROKEN) {
                return false;
            }
            int told;
            if (kind == STEPPED) {
                told = tread(a);
                latest = told;
            } else {
                told = kind == SWAPPED ? exchange(c, a, b) : lift(b, a);
            }
            done++;
            return told >= 0;
        }

        private void fillWords() {
            words[0] = table.many;
            words[1] = done;
            words[2] = latest;
            for (int i = 0; i < MOST_HEAPS; i++) {
                Row row = table.at(i);
                int at = Reader.TOP_WORD + i;
                words[at] = row == null ? NONE : row.card(0);
                words[at + MOST_HEAPS] = row == null ? NONE : row.claps;
                words[at + 2 * MOST_HEAPS] = row == null ? NONE : row.many;
            }
        }
    }

    /**
     * All rows of a few cards and where each step leads from them. A row is known by its rank among
     * all rows of these cards, a time of it by rank and last; every step is made once only and
     * remembered as long as cards, law and mood stay.
     */
    private static final class Ways {
        static final int[] ROWS = {1, 1, 2, 6, 24, 120, 720, 5040};
        static final int UNKNOWN = 0;
        static final int ENDED = -1;
        static final int STUCK = -2;
        static final int WALKED = -1;
        static final int NEVER = -2;
        static final int FATE_ENDS = 1;
        static final int FATE_RISEN = 2;
        static final int FATE_STICKS = 3;
        static final int FATES = 4;

        static final int ENDING = 0;
        static final int STICKING = 1;
        static final int NEITHER = 2;
        static final int RISEN = 3;

        int longest;
        int soLong;
        int firstLongest;
        final int[] counts = new int[RISEN + 1];
        int upper;
        int lower;
        private final Table table;
        private final Steps steps;
        private final Row base = new Row();
        private final Row row = new Row();
        private final Row paper = new Row();
        private final int[] wanted = new int[LATEST_SIGHT + 1];
        private final int[] firsts = new int[16];
        private Text law;
        private int mood;
        private int lasts;
        private int[] nexts = new int[0];
        private int[] fates = new int[0];
        private int surveyed;

        Ways(Table table, Steps steps) {
            this.table = table;
            this.steps = steps;
        }

        /** Lays the first row of a heap's cards; what is remembered stays, if it is still so. */
        private void start(Row heap) {
            row.copy(heap);
            row.many = Math.max(1, Math.min(row.many, FEW_CARDS));
            row.order(0);
            row.last = 0;
            row.claps = 0;
            boolean same = lasts > 0 && law == table.inForce() && mood == table.mood
                    && row.many == base.many && row.number == base.number && row.packed() == base.packed();
            if (!same) {
                base.copy(row);
                law = table.inForce();
                mood = table.mood;
                surveyed = NONE;
                makeRoom();
            }
        }

        /** Times of one row differ only if a joker or the law asks what was turned last. */
        private void makeRoom() {
            boolean lastMatters = base.card(0) == 0 || law != null && law.asksLast;
            lasts = lastMatters ? base.many + 1 : 1;
            for (int i = base.many - 1; i >= 0; i--) {
                firsts[base.cards[i] & 15] = i;
            }
            int size = rowsOf(base.many) * lasts;
            if (nexts.length < size || fates.length < size) {
                nexts = new int[size];
                fates = new int[size];
            } else {
                for (int i = 0; i < size; i++) {
                    nexts[i] = UNKNOWN;
                    fates[i] = UNKNOWN;
                }
            }
        }

        private static int rowsOf(int many) {
            return many >= 0 && many < ROWS.length ? ROWS[many] : 1;
        }

        /** A row's time: its rank, alike cards being taken from the left, and its last. */
        private int timeOf(Row of) {
            int used = 0;
            int rank = 0;
            for (int place = 0; place < base.many; place++) {
                int i = firsts[of.cards[place] & 15];
                while (i < base.many && (used >> i & 1) != 0) {
                    i++;
                }
                int before = i - Integer.bitCount(used & (1 << i) - 1);
                rank = rank * (base.many - place) + before;
                used |= 1 << i;
            }
            return rank * lasts + Math.min(of.last, lasts - 1);
        }

        /** Lays out a time's row on paper. */
        private void layOut(int time) {
            int used = 0;
            int rank = time / Math.max(lasts, 1);
            paper.copy(base);
            paper.last = time % Math.max(lasts, 1);
            for (int place = 0; place < base.many; place++) {
                int size = Math.max(rowsOf(base.many - 1 - place), 1);
                int before = rank / size;
                rank = rank % size;
                for (int i = 0; i < base.many; i++) {
                    if ((used >> i & 1) == 0) {
                        if (before == 0) {
                            used |= 1 << i;
                            paper.cards[place] = base.cards[i];
                            break;
                        }
                        before--;
                    }
                }
            }
        }

        int cardOf(int rank, int place) {
            layOut(rank * lasts);
            return paper.card(place);
        }

        private int topOf(int time) {
            int rank = time / Math.max(lasts, 1);
            return base.card(rank / Math.max(rowsOf(base.many - 1), 1));
        }

        /** The time behind one step; ENDED or STUCK, if there is none. */
        private int follow(int time) {
            if (time < 0 || time >= nexts.length) {
                return STUCK;
            }
            if (nexts[time] == UNKNOWN) {
                layOut(time);
                int how = steps.look(paper);
                if (how == GOING) {
                    steps.make(paper);
                    nexts[time] = timeOf(paper) + 1;
                } else {
                    nexts[time] = how == ENDS ? ENDED : STUCK;
                }
            }
            return nexts[time] > 0 ? nexts[time] - 1 : nexts[time];
        }

        /**
         * How it ends from a row, with FATES times the steps till then; NEVER, if it comes round.
         * All times on its way get to know theirs, so that no step is looked at twice.
         */
        private int fateOf(Row from) {
            int start = timeOf(from);
            if (start < 0 || start >= fates.length) {
                return NEVER;
            }
            if (fates[start] != UNKNOWN) {
                return fates[start];
            }
            paper.copy(from);
            int at = start;
            int walked = 0;
            for (int i = 0; i <= fates.length && at >= 0 && at < fates.length && fates[at] == UNKNOWN; i++) {
                int how = steps.look(paper);
                if (how == GOING) {
                    steps.make(paper);
                    fates[at] = WALKED;
                    nexts[at] = timeOf(paper) + 1;
                    at = nexts[at] - 1;
                    walked++;
                } else if (how == STICKS) {
                    fates[at] = FATE_STICKS;
                } else {
                    fates[at] = paper.rises() ? FATE_RISEN : FATE_ENDS;
                }
            }
            int fate = at >= 0 && at < fates.length ? fates[at] : NEVER;
            writeDown(start, walked, fate > 0 ? fate : NEVER);
            return fates[start];
        }

        /** Goes a way a second time and writes its fate down at each of its times. */
        private void writeDown(int start, int walked, int fate) {
            int at = start;
            for (int left = walked; left > 0 && at >= 0 && at < fates.length; left--) {
                fates[at] = fate > 0 ? fate + left * FATES : NEVER;
                at = nexts[at] - 1;
            }
        }

        /** Counts how all orders of so many cards go on. */
        void survey(Row orders) {
            start(orders);
            if (surveyed == table.ahead) {
                return;
            }
            surveyed = table.ahead;
            longest = NONE;
            soLong = 0;
            firstLongest = 0;
            Arrays.fill(counts, 0);
            boolean more = true;
            for (int rank = 0; rank < rowsOf(base.many) && more; rank++) {
                tally(rank, fateOf(row));
                more = row.advance(0);
            }
        }

        private void tally(int rank, int fate) {
            int behind = fate / FATES;
            int kind = fate % FATES;
            if (fate < 0 || behind > table.ahead) {
                counts[NEITHER]++;
            } else if (kind == FATE_STICKS) {
                counts[STICKING]++;
            } else {
                counts[ENDING]++;
                counts[RISEN] += kind == FATE_RISEN ? 1 : 0;
                if (behind > longest) {
                    longest = behind;
                    soLong = 0;
                    firstLongest = rank;
                }
                soLong += behind == longest ? 1 : 0;
            }
        }

        /** What leads to a heap: how many rows, or a card of the i-th. */
        int leading(Row heap, int i, int place) {
            start(heap);
            int goal = timeOf(heap) / Math.max(lasts, 1);
            int found = 0;
            boolean more = true;
            for (int n = 0; n < rowsOf(base.many) && more; n++) {
                int next = follow(timeOf(row));
                if (next >= 0 && next / Math.max(lasts, 1) == goal) {
                    if (found == i) {
                        return row.card(place);
                    }
                    found++;
                }
                more = row.advance(0);
            }
            return i == NONE ? found : NONE;
        }

        /**
         * In how many orders of the cards that are not seen it ends behind just so many steps. Each
         * unlike row stands for as many orders by places: so the unlike ones alone tell the fraction.
         */
        void weigh(Row heap, int seen, int behind) {
            start(heap);
            row.copy(heap);
            row.last = 0;
            row.order(seen);
            int all = 0;
            int so = 0;
            boolean more = true;
            for (int n = 0; n < rowsOf(base.many) && more; n++) {
                int fate = fateOf(row);
                if (fate > 0 && fate % FATES != FATE_STICKS && fate / FATES == behind && behind <= table.ahead) {
                    so++;
                }
                all++;
                more = row.advance(seen);
            }
            int common = Math.max(commonDivisor(all, so), 1);
            upper = so / common;
            lower = all / common;
        }

        private static int commonDivisor(int one, int other) {
            int high = one;
            int low = other;
            for (int i = 0; i < 64 && low > 0; i++) {
                int left = high % low;
                high = low;
                low = left;
            }
            return high;
        }

        /** Rows that fit all sights: how many, or a card of the i-th. */
        int fitting(Row heap, int i, int place) {
            start(heap);
            int latest = wantSights();
            int found = 0;
            boolean more = true;
            for (int n = 0; n < rowsOf(base.many) && more; n++) {
                if (fitsSights(timeOf(row), latest)) {
                    if (found == i) {
                        return row.card(place);
                    }
                    found++;
                }
                more = row.advance(0);
            }
            return i == NONE ? found : NONE;
        }

        /** Writes down which top is wanted behind each step: the latest such step. */
        private int wantSights() {
            int latest = 0;
            Arrays.fill(wanted, NONE);
            for (int s = 0; s < table.sights; s++) {
                int k = table.stepsOf(s);
                if (k >= 0 && k < wanted.length) {
                    int card = table.cardOf(s);
                    // No card is as high as what two unlike sights of one step want.
                    wanted[k] = wanted[k] == NONE || wanted[k] == card ? card : HIGHEST_CARD + 1;
                    latest = Math.max(latest, k);
                }
            }
            return latest;
        }

        private boolean fitsSights(int from, int latest) {
            int time = from;
            for (int k = 0; k <= latest && k < wanted.length; k++) {
                if (k > 0) {
                    time = follow(time);
                }
                if (time < 0 || wanted[k] != NONE && wanted[k] != topOf(time)) {
                    return false;
                }
            }
            return true;
        }
    }

    /** The fewest blocks by which a few cards are put in order. */
    private static final class Sorter {
        static final int MOST_BLOCKS = 12;

        int fewest;
        private final int[] blocks = new int[MOST_BLOCKS];
        private final int[] ranks = new int[16];
        private int unlike;

        int block(int i) {
            return i >= 0 && i < fewest && i < MOST_BLOCKS ? blocks[i] : NONE;
        }

        /** Tries ever more blocks; of as many, the lowest first. */
        void putInOrder(Row row) {
            rankCards(row);
            fewest = 0;
            for (int most = 0; most < MOST_BLOCKS; most++) {
                if (search(row, 0, most)) {
                    fewest = most;
                    return;
                }
            }
        }

        /** Cards are ranked without gaps, so that neighbours in order differ by 1 at most. */
        private void rankCards(Row row) {
            Arrays.fill(ranks, 0);
            for (int i = 0; i < row.many; i++) {
                ranks[row.cards[i] & 15] = 1;
            }
            unlike = 0;
            for (int card = 0; card < ranks.length; card++) {
                unlike += ranks[card];
                ranks[card] = unlike;
            }
        }

        private boolean search(Row row, int depth, int most) {
            if (depth >= most) {
                return row.rises();
            }
            if (depth + atLeast(row) > most || depth >= MOST_BLOCKS) {
                return false;
            }
            for (int n = 2; n <= row.many; n++) {
                blocks[depth] = n;
                row.reverse(0, n - 1);
                boolean found = search(row, depth + 1, most);
                row.reverse(0, n - 1);
                if (found) {
                    return true;
                }
            }
            return false;
        }

        /** A block changes one pair of neighbours alone, so each pair that can't stay costs one. */
        private int atLeast(Row row) {
            int gaps = 0;
            int changes = 0;
            for (int i = 0; i < row.many; i++) {
                int rank = ranks[row.cards[i] & 15];
                int below = i + 1 < row.many ? ranks[row.cards[i + 1] & 15] : unlike;
                if (Math.abs(rank - below) > 1 || i + 1 == row.many && rank != below) {
                    gaps++;
                }
                if (i + 1 < row.many && rank != below) {
                    changes++;
                }
            }
            return Math.max(gaps, changes - unlike + 1);
        }
    }

    /** The latest evenings. */
    private static final class Evenings {
        static final long FACTOR = 1103;
        static final long MORE = 12345;
        static final long MODULUS = 1000003;

        boolean held;
        int together;
        int most;
        final Row beginning = new Row();
        private final Steps steps;
        private long seed;

        Evenings(Steps steps) {
            this.steps = steps;
        }

        /** Holds n evenings with a heap on paper: how many ended. */
        int hold(Row paper, int start, int n) {
            held = true;
            together = 0;
            most = NONE;
            seed = start;
            int ended = 0;
            for (int i = 0; i < n; i++) {
                shuffle(paper);
                paper.last = 0;
                beginning.copy(paper);
                steps.goOn(paper);
                if (steps.how == ENDS) {
                    ended++;
                    together += steps.behind;
                    most = Math.max(most, steps.behind);
                }
            }
            return ended;
        }

        private void shuffle(Row row) {
            for (int i = row.many - 1; i > 0; i--) {
                seed = (seed * FACTOR + MORE) % MODULUS;
                row.exchange(i, (int) (seed % (i + 1)));
            }
        }
    }
}
