import java.util.ArrayDeque;
import java.util.ArrayList;
import java.util.Collections;
import java.util.HashMap;
import java.util.List;
import java.util.Map;
import java.util.TreeSet;

/** The document once more, written as plainly as can be and apart from the class: what it answers is compared. */
final class Model {
    static final int NONE = -1;

    static final class Broken extends RuntimeException {
        private static final long serialVersionUID = 1;
    }

    static final class Fault extends RuntimeException {
        private static final long serialVersionUID = 1;
        final int place;

        Fault(int place) {
            this.place = place;
        }
    }

    static final class Refused extends RuntimeException {
        private static final long serialVersionUID = 1;
        final int code;

        Refused(int code) {
            this.code = code;
        }
    }

    interface Words {
        int tell(String word);
    }

    interface Expr {
        long ask(Words words);
    }

    static final class Clause {
        String kind;
        List<Expr> sums = new ArrayList<>();
        int times = 1;
        Expr test;
    }

    static final class Heap {
        List<Integer> cards = new ArrayList<>();
        int claps;
        int last;
        int number = -1;

        Heap twin() {
            Heap h = new Heap();
            h.cards.addAll(cards);
            h.claps = claps;
            h.last = last;
            h.number = number;
            return h;
        }
    }

    static final class State {
        List<Heap> heaps = new ArrayList<>();
        List<int[]> sights = new ArrayList<>();
        List<List<Clause>> laws = new ArrayList<>();
        int force = -1;
        int mood = 0;
        int ahead = 200;

        State twin() {
            State s = new State();
            for (Heap h : heaps) {
                s.heaps.add(h.twin());
            }
            s.sights.addAll(sights);
            s.laws.addAll(laws);
            s.force = force;
            s.mood = mood;
            s.ahead = ahead;
            return s;
        }
    }

    static final class Undo {
        int kind;
        int heap;
        Heap was;
    }

    List<Integer> tape = new ArrayList<>();
    State now = new State();
    State[] images = new State[2];
    List<Undo> undos = new ArrayList<>();
    int fault = -1;
    int stopped = -1;
    int status = 0;
    Map<Integer, Integer> refusals = new HashMap<>();
    boolean held;
    int together;
    int most;
    List<Integer> beginning;

    // ---------------------------------------------------------------- texts

    static final class Parser {
        final List<Integer> bytes;
        final boolean orders;
        final List<String> tokens = new ArrayList<>();
        final List<Integer> places = new ArrayList<>();
        int at = 0;
        int parts = 0;

        Parser(List<Integer> bytes, boolean orders) {
            this.bytes = bytes;
            this.orders = orders;
            StringBuilder all = new StringBuilder();
            for (int b : bytes) {
                all.append((char) b);
            }
            java.util.regex.Matcher m = java.util.regex.Pattern.compile("[a-z]+|[0-9]+|[^ ]", java.util.regex.Pattern.DOTALL).matcher(all);
            while (m.find()) {
                tokens.add(m.group());
                places.add(m.start());
            }
            tokens.add("");
            places.add(bytes.size());
        }

        Fault wrong() {
            return new Fault(places.get(at));
        }

        boolean is(String t) {
            return tokens.get(at).equals(t);
        }

        void need(String t) {
            if (!is(t)) {
                throw wrong();
            }
            at++;
        }

        boolean isNumber() {
            return tokens.get(at).matches("[0-9]+");
        }

        int number(int low, int high) {
            if (!isNumber()) {
                throw wrong();
            }
            java.math.BigInteger n = new java.math.BigInteger(tokens.get(at));
            if (n.compareTo(java.math.BigInteger.valueOf(low)) < 0 || n.compareTo(java.math.BigInteger.valueOf(high)) > 0) {
                throw wrong();
            }
            at++;
            return n.intValue();
        }

        List<Clause> text() {
            List<Clause> all = new ArrayList<>();
            all.add(clause());
            while (is(";")) {
                at++;
                if (all.size() == 12) {
                    throw wrong();
                }
                all.add(clause());
            }
            if (!is("")) {
                throw wrong();
            }
            return all;
        }

        Clause clause() {
            Clause c = new Clause();
            c.kind = tokens.get(at);
            if (orders ? !List.of("step", "swap", "cut").contains(c.kind) : !List.of("turns", "sinks", "ends").contains(c.kind)) {
                throw wrong();
            }
            at++;
            if (!c.kind.equals("ends")) {
                c.sums.add(sum(0));
            }
            if (c.kind.equals("swap")) {
                need("with");
                c.sums.add(sum(0));
            }
            if (c.kind.equals("swap") || c.kind.equals("cut")) {
                need("of");
                c.sums.add(sum(0));
            }
            if (orders && is("times")) {
                at++;
                c.times = number(1, 20);
            }
            if (is("if")) {
                at++;
                c.test = test(0);
            }
            return c;
        }

        Expr test(int depth) {
            Expr left = both(depth);
            while (is("or")) {
                at++;
                Expr a = left;
                Expr b = both(depth);
                left = w -> a.ask(w) == 1 ? 1 : b.ask(w);
            }
            return left;
        }

        Expr both(int depth) {
            Expr left = plain(depth);
            while (is("and")) {
                at++;
                Expr a = left;
                Expr b = plain(depth);
                left = w -> a.ask(w) == 0 ? 0 : b.ask(w);
            }
            return left;
        }

        Expr plain(int depth) {
            if (is("not")) {
                at++;
                Expr a = plain(depth);
                return w -> 1 - a.ask(w);
            }
            if (is("(")) {
                if (depth == 8) {
                    throw wrong();
                }
                at++;
                Expr a = test(depth + 1);
                need(")");
                return a;
            }
            Expr a = sum(depth);
            String sign = tokens.get(at);
            if (!List.of("<", ">", "=").contains(sign)) {
                throw wrong();
            }
            at++;
            Expr b = sum(depth);
            return w -> {
                long x = a.ask(w);
                long y = b.ask(w);
                return (sign.equals("<") ? x < y : sign.equals(">") ? x > y : x == y) ? 1 : 0;
            };
        }

        static long near(long v) {
            if (v > 1000000000L || v < -1000000000L) {
                throw new Broken();
            }
            return v;
        }

        Expr sum(int depth) {
            Expr left = term(depth);
            while (is("+") || is("-")) {
                boolean plus = is("+");
                at++;
                Expr a = left;
                Expr b = term(depth);
                left = w -> {
                    long x = a.ask(w);
                    long y = b.ask(w);
                    return near(plus ? x + y : x - y);
                };
            }
            return left;
        }

        Expr term(int depth) {
            Expr left = part(depth);
            while (is("*") || is("/") || is("%")) {
                String sign = tokens.get(at);
                at++;
                Expr a = left;
                Expr b = part(depth);
                left = w -> {
                    long x = a.ask(w);
                    long y = b.ask(w);
                    if (sign.equals("*")) {
                        return near(x * y);
                    }
                    if (y == 0) {
                        throw new Broken();
                    }
                    return near(sign.equals("/") ? x / y : x % y);
                };
            }
            return left;
        }

        Expr part(int depth) {
            if (is("[")) {
                if (depth == 8) {
                    throw wrong();
                }
                at++;
                Expr a = sum(depth + 1);
                need("]");
                return a;
            }
            if (++parts > 50) {
                throw wrong();
            }
            if (isNumber()) {
                int n = number(0, 1000);
                return w -> n;
            }
            String word = tokens.get(at);
            List<String> known = orders ? List.of("heaps", "done", "latest", "top", "claps", "many")
                    : List.of("top", "second", "third", "under", "many", "last", "heap", "mood");
            if (!known.contains(word)) {
                throw wrong();
            }
            at++;
            if (orders && known.indexOf(word) >= 3) {
                int h = number(0, 5);
                return w -> w.tell(word + h);
            }
            return w -> w.tell(word);
        }
    }

    // ---------------------------------------------------------------- steps

    int turns;
    int sinks;

    static int cardAt(List<Integer> cards, int place) {
        return place >= 0 && place < cards.size() ? cards.get(place) : -1;
    }

    static boolean isSo(Clause c, Words w) {
        try {
            return c.test == null || c.test.ask(w) == 1;
        } catch (Broken b) {
            return false;
        }
    }

    static Integer tells(Clause c, Words w) {
        try {
            return (int) c.sums.get(0).ask(w);
        } catch (Broken b) {
            return null;
        }
    }

    /** 0 ended, 1 sticks, 3 goes on. */
    int look(Heap h) {
        int top = h.cards.get(0);
        Words w = word -> {
            switch (word) {
                case "top": return top;
                case "second": return cardAt(h.cards, 1);
                case "third": return cardAt(h.cards, 2);
                case "under": return h.cards.get(h.cards.size() - 1);
                case "many": return h.cards.size();
                case "last": return h.last;
                case "heap": return h.number;
                default: return now.mood;
            }
        };
        turns = top == 0 ? h.last : top;
        sinks = 0;
        boolean anyEnds = false;
        boolean ended = false;
        if (now.force >= 0) {
            for (Clause c : now.laws.get(now.force)) {
                boolean so = isSo(c, w);
                if (c.kind.equals("ends")) {
                    anyEnds = true;
                    ended |= so;
                } else if (so) {
                    Integer told = tells(c, w);
                    if (told != null && c.kind.equals("turns")) {
                        turns = told;
                    } else if (told != null) {
                        sinks = told;
                    }
                }
            }
        }
        if (!anyEnds) {
            ended = top == 1;
        }
        if (ended) {
            return 0;
        }
        int n = h.cards.size();
        return turns < 0 || turns > n || sinks < 0 || sinks > n ? 1 : 3;
    }

    /** One step, of a heap that can. */
    void make(Heap h) {
        look(h);
        Collections.reverse(h.cards.subList(0, turns));
        Collections.rotate(h.cards, -sinks);
        h.claps = Math.min(9999, h.claps + 1);
        h.last = Math.min(13, turns);
    }

    /** How it goes, behind how many, first so; h lies as at the end then. */
    int[] goOn(Heap h) {
        List<List<Integer>> were = new ArrayList<>();
        for (int i = 0; ; i++) {
            int how = look(h);
            if (how != 3) {
                return new int[] {how, i, -1};
            }
            List<Integer> is = new ArrayList<>(h.cards);
            is.add(h.last);
            int first = were.indexOf(is);
            if (first >= 0) {
                return new int[] {2, i, first};
            }
            if (i == now.ahead) {
                return new int[] {3, i, -1};
            }
            were.add(is);
            make(h);
        }
    }

    int endsBehind(Heap h) {
        int[] how = goOn(h.twin());
        return how[0] == 0 ? how[1] : -1;
    }

    static List<List<Integer>> allRows(List<Integer> cards) {
        TreeSet<List<Integer>> rows = new TreeSet<>((a, b) -> {
            for (int i = 0; i < a.size(); i++) {
                if (!a.get(i).equals(b.get(i))) {
                    return a.get(i) - b.get(i);
                }
            }
            return 0;
        });
        rows.addAll(byPlaces(cards));
        return new ArrayList<>(rows);
    }

    /** All orders by places. */
    static List<List<Integer>> byPlaces(List<Integer> cards) {
        List<List<Integer>> all = new ArrayList<>();
        if (cards.isEmpty()) {
            all.add(new ArrayList<>());
            return all;
        }
        for (int i = 0; i < cards.size(); i++) {
            List<Integer> rest = new ArrayList<>(cards);
            Integer first = rest.remove(i);
            for (List<Integer> r : byPlaces(rest)) {
                List<Integer> row = new ArrayList<>();
                row.add(first);
                row.addAll(r);
                all.add(row);
            }
        }
        return all;
    }

    static Heap row(List<Integer> cards, int number) {
        Heap h = new Heap();
        h.cards.addAll(cards);
        h.number = number;
        return h;
    }

    Heap at(int heap) {
        return heap >= 0 && heap < now.heaps.size() ? now.heaps.get(heap) : null;
    }

    // ---------------------------------------------------------------- changes

    int refuse(int code) {
        status = code;
        refusals.merge(code, 1, Integer::sum);
        return code;
    }

    int answer(int value) {
        status = 0;
        return value;
    }

    void keep(int kind, int heap) {
        Undo u = new Undo();
        u.kind = kind;
        u.heap = heap;
        u.was = at(heap).twin();
        undos.add(u);
        if (undos.size() > 16) {
            undos.remove(0);
        }
    }

    int doStep(int heap) {
        Heap h = at(heap);
        if (h == null) {
            return -2;
        }
        if (look(h) != 3) {
            return -3;
        }
        keep(0, heap);
        make(h);
        return h.claps;
    }

    int doSwap(int heap, int one, int other) {
        Heap h = at(heap);
        if (h == null) {
            return -2;
        }
        int n = h.cards.size();
        if (one < 0 || one >= n || other < 0 || other >= n || one == other) {
            return -1;
        }
        keep(1, heap);
        Collections.swap(h.cards, one, other);
        return h.cards.get(0);
    }

    int doCut(int heap, int many) {
        Heap h = at(heap);
        if (h == null) {
            return -2;
        }
        if (many < 1 || many > h.cards.size()) {
            return -1;
        }
        keep(2, heap);
        Collections.rotate(h.cards, -many);
        return h.cards.get(0);
    }

    // ---------------------------------------------------------------- calls

    int feed(int a, int b, int c, int d, int e) {
        if (tape.size() + 20 > 400) {
            return -1;
        }
        for (int n : new int[] {a, b, c, d, e}) {
            for (int s = 24; s >= 0; s -= 8) {
                tape.add(n >>> s & 255);
            }
        }
        return tape.size();
    }

    int end(int n) {
        if (n < 0 || n > tape.size()) {
            return -1;
        }
        tape = new ArrayList<>(tape.subList(0, n));
        return n;
    }

    int heap() {
        List<Integer> bytes = tape;
        tape = new ArrayList<>();
        if (now.heaps.size() == 6) {
            return refuse(-5);
        }
        if (bytes.isEmpty() || bytes.size() > 13 || Collections.max(bytes) > 13) {
            return refuse(-6);
        }
        undos.clear();
        now.heaps.add(row(bytes, now.heaps.size()));
        return answer(now.heaps.size() - 1);
    }

    int of(int heap, int what) {
        Heap h = at(heap);
        if (h == null || what < 0) {
            return -1001;
        }
        int how = look(h);
        switch (what) {
            case 0: return h.cards.size();
            case 1: return h.claps;
            case 2: return h.last;
            case 3: return how == 0 ? 1 : 0;
            case 4: return how == 1 ? 1 : 0;
            case 5: return Math.max(-1000, Math.min(1000, turns));
            case 6: return Math.max(-1000, Math.min(1000, sinks));
            default: return what - 7 < h.cards.size() ? h.cards.get(what - 7) : -1001;
        }
    }

    int terms(int what, int value) {
        int was;
        if (what == 0 && value >= 0 && value <= 9) {
            was = now.mood;
            now.mood = value;
        } else if (what == 1 && value >= 1 && value <= 300) {
            was = now.ahead;
            now.ahead = value;
        } else {
            return refuse(-1);
        }
        undos.clear();
        return answer(was);
    }

    List<Clause> read(boolean orders) {
        List<Integer> bytes = tape;
        tape = new ArrayList<>();
        fault = -1;
        try {
            return new Parser(bytes, orders).text();
        } catch (Fault f) {
            fault = f.place;
            return null;
        }
    }

    int law() {
        if (now.laws.size() == 6) {
            tape = new ArrayList<>();
            return refuse(-5);
        }
        List<Clause> text = read(false);
        if (text == null) {
            return refuse(-6);
        }
        now.laws.add(text);
        return answer(now.laws.size() - 1);
    }

    int orders() {
        stopped = -1;
        List<Clause> text = read(true);
        if (text == null) {
            return refuse(-6);
        }
        State before = now.twin();
        List<Undo> undosBefore = new ArrayList<>(undos);
        int[] done = {0, -1};
        Words w = word -> {
            if (word.equals("heaps")) {
                return now.heaps.size();
            }
            if (word.equals("done") || word.equals("latest")) {
                return done[word.equals("done") ? 0 : 1];
            }
            Heap h = at(word.charAt(word.length() - 1) - '0');
            return h == null ? -1 : word.startsWith("top") ? h.cards.get(0) : word.startsWith("claps") ? h.claps : h.cards.size();
        };
        for (int c = 0; c < text.size(); c++) {
            for (int t = 0; t < text.get(c).times; t++) {
                if (isSo(text.get(c), w)) {
                    int told = runOne(text.get(c), w);
                    if (told < 0) {
                        now = before;
                        undos = undosBefore;
                        stopped = c;
                        return refuse(-3);
                    }
                    done[0]++;
                    if (text.get(c).kind.equals("step")) {
                        done[1] = told;
                    }
                }
            }
        }
        return answer(done[0]);
    }

    int runOne(Clause c, Words w) {
        int[] v = new int[c.sums.size()];
        try {
            for (int i = 0; i < v.length; i++) {
                v[i] = (int) c.sums.get(i).ask(w);
            }
        } catch (Broken b) {
            return -3;
        }
        return c.kind.equals("step") ? doStep(v[0]) : c.kind.equals("swap") ? doSwap(v[2], v[0], v[1]) : doCut(v[1], v[0]);
    }

    int force(int law) {
        if (law < -1 || law >= now.laws.size()) {
            return refuse(-2);
        }
        int was = now.force;
        now.force = law;
        return answer(was);
    }

    int told(int told) {
        return told < 0 ? refuse(told) : answer(told);
    }

    int undo() {
        if (undos.isEmpty()) {
            return refuse(-3);
        }
        Undo u = undos.remove(undos.size() - 1);
        now.heaps.set(u.heap, u.was);
        return answer(u.kind);
    }

    int goes(int heap, int what) {
        return at(heap) == null || what < 0 || what > 2 ? -1 : goOn(at(heap).twin())[what];
    }

    int after(int heap, int n, int place) {
        if (at(heap) == null || n < 0 || n > 300) {
            return -1;
        }
        Heap h = at(heap).twin();
        for (int i = 0; i < n && look(h) == 3; i++) {
            make(h);
        }
        return cardAt(h.cards, place);
    }

    static List<Integer> upTo(int n) {
        List<Integer> cards = new ArrayList<>();
        for (int i = 1; i <= n; i++) {
            cards.add(i);
        }
        return cards;
    }

    int longest(int n, int what) {
        if (n < 1 || n > 7 || what < 0) {
            return -1;
        }
        int best = -1;
        int many = 0;
        List<Integer> first = null;
        for (List<Integer> r : allRows(upTo(n))) {
            int ends = endsBehind(row(r, -1));
            if (ends > best) {
                best = ends;
                many = 0;
                first = r;
            }
            many += ends == best ? 1 : 0;
        }
        return best < 0 ? -1 : what == 0 ? best : what == 1 ? many : cardAt(first, what - 2);
    }

    int orderly(int n, int what) {
        if (n < 1 || n > 7 || what < 0 || what > 3) {
            return -1;
        }
        int[] counts = new int[4];
        for (List<Integer> r : allRows(upTo(n))) {
            Heap h = row(r, -1);
            int how = goOn(h)[0];
            counts[Math.min(how, 2)]++;
            counts[3] += how == 0 && h.cards.equals(upTo(n)) ? 1 : 0;
        }
        return counts[what];
    }

    int pick(List<List<Integer>> rows, int i, int place) {
        return i == -1 ? rows.size() : i >= 0 && i < rows.size() ? cardAt(rows.get(i), place) : -1;
    }

    int to(int heap, int i, int place) {
        if (at(heap) == null || at(heap).cards.size() > 7) {
            return -1;
        }
        List<List<Integer>> found = new ArrayList<>();
        for (List<Integer> r : allRows(at(heap).cards)) {
            Heap h = row(r, heap);
            if (look(h) == 3) {
                make(h);
                if (h.cards.equals(at(heap).cards)) {
                    found.add(r);
                }
            }
        }
        return pick(found, i, place);
    }

    int cheat(int heap, int what) {
        if (at(heap) == null || what < 0 || what > 2) {
            return -1;
        }
        int[] best = {-1, -1, -1};
        int n = at(heap).cards.size();
        for (int i = 0; i < n; i++) {
            for (int j = i + 1; j < n; j++) {
                Heap h = at(heap).twin();
                if (!h.cards.get(i).equals(h.cards.get(j))) {
                    Collections.swap(h.cards, i, j);
                    int ends = endsBehind(h);
                    if (ends > best[0]) {
                        best = new int[] {ends, i, j};
                    }
                }
            }
        }
        return best[what];
    }

    int odds(int heap, int seen, int c, int what) {
        Heap h = at(heap);
        if (h == null || h.cards.size() > 7 || seen < 0 || seen > h.cards.size() || c < 0 || c > 300 || what < 0 || what > 1) {
            return -1;
        }
        int so = 0;
        int all = 0;
        for (List<Integer> r : byPlaces(h.cards.subList(seen, h.cards.size()))) {
            List<Integer> cards = new ArrayList<>(h.cards.subList(0, seen));
            cards.addAll(r);
            all++;
            so += endsBehind(row(cards, heap)) == c ? 1 : 0;
        }
        int d = java.math.BigInteger.valueOf(all).gcd(java.math.BigInteger.valueOf(so)).intValue();
        return what == 0 ? so / d : all / d;
    }

    int sight(int k, int card) {
        if (k < 0 || k > 99 || card < 0 || card > 13) {
            return refuse(-1);
        }
        if (now.sights.size() == 8) {
            return refuse(-5);
        }
        now.sights.add(new int[] {k, card});
        return answer(now.sights.size());
    }

    int forget() {
        int were = now.sights.size();
        now.sights.clear();
        return were;
    }

    boolean fitsAll(List<Integer> r, int heap) {
        for (int[] s : now.sights) {
            Heap h = row(r, heap);
            for (int k = 0; k < s[0]; k++) {
                if (look(h) != 3) {
                    return false;
                }
                make(h);
            }
            if (h.cards.get(0) != s[1]) {
                return false;
            }
        }
        return true;
    }

    int fits(int heap, int i, int place) {
        if (at(heap) == null || at(heap).cards.size() > 7) {
            return -1;
        }
        List<List<Integer>> found = new ArrayList<>();
        for (List<Integer> r : allRows(at(heap).cards)) {
            if (fitsAll(r, heap)) {
                found.add(r);
            }
        }
        return pick(found, i, place);
    }

    int race(int one, int other) {
        if (at(one) == null || at(other) == null) {
            return -1;
        }
        int a = endsBehind(at(one));
        int b = endsBehind(at(other));
        if (a < 0 && b < 0) {
            return -1;
        }
        a = a < 0 ? 1000 : a;
        b = b < 0 ? 1000 : b;
        return a < b ? 0 : b < a ? 1 : 2;
    }

    /** Goes breadth first by rows of blocks in their order: the first row that rises is the first of the fewest. */
    int sorted(int heap, int what) {
        if (at(heap) == null || at(heap).cards.size() > 7 || what < 0) {
            return -1;
        }
        List<Integer> from = at(heap).cards;
        List<Integer> goal = new ArrayList<>(from);
        Collections.sort(goal);
        Map<List<Integer>, List<Integer>> ways = new HashMap<>();
        ArrayDeque<List<Integer>> open = new ArrayDeque<>();
        ways.put(from, new ArrayList<>());
        open.add(from);
        while (!ways.containsKey(goal)) {
            List<Integer> r = open.remove();
            for (int n = 2; n <= r.size(); n++) {
                List<Integer> next = new ArrayList<>(r);
                Collections.reverse(next.subList(0, n));
                if (!ways.containsKey(next)) {
                    List<Integer> way = new ArrayList<>(ways.get(r));
                    way.add(n);
                    ways.put(next, way);
                    open.add(next);
                }
            }
        }
        List<Integer> way = ways.get(goal);
        return what == 0 ? way.size() : cardAt(way, what - 1);
    }

    int evenings(int heap, int seed, int n) {
        if (at(heap) == null) {
            return refuse(-2);
        }
        if (seed < 0 || seed > 1000000 || n < 1 || n > 60) {
            return refuse(-1);
        }
        held = true;
        together = 0;
        most = -1;
        long s = seed;
        int ended = 0;
        Heap h = at(heap).twin();
        for (int i = 0; i < n; i++) {
            for (int p = h.cards.size(); p >= 2; p--) {
                s = (s * 1103 + 12345) % 1000003;
                Collections.swap(h.cards, p - 1, (int) (s % p));
            }
            h.last = 0;
            beginning = new ArrayList<>(h.cards);
            int[] how = goOn(h);
            if (how[0] == 0) {
                ended++;
                together += how[1];
                most = Math.max(most, how[1]);
            }
        }
        return answer(ended);
    }

    int drawn(int what) {
        return !held || what < 0 ? -1 : what == 0 ? together : what == 1 ? most : cardAt(beginning, what - 2);
    }

    int image(int k) {
        if (k < 0 || k > 1) {
            return refuse(-1);
        }
        images[k] = now.twin();
        return answer(0);
    }

    int back(int k) {
        if (k < 0 || k > 1) {
            return refuse(-1);
        }
        if (images[k] == null) {
            return refuse(-2);
        }
        now = images[k].twin();
        undos.clear();
        return answer(0);
    }

    int count(int what) {
        switch (what) {
            case 0: return now.heaps.size();
            case 1: return now.sights.size();
            case 2: return now.laws.size();
            case 3: return undos.size();
            case 4: return tape.size();
            case 5: return refusals.getOrDefault(-1, 0);
            case 6: return refusals.getOrDefault(-2, 0);
            case 7: return refusals.getOrDefault(-3, 0);
            case 8: return refusals.getOrDefault(-5, 0);
            case 9: return refusals.getOrDefault(-6, 0);
            case 10: return now.force;
            case 11: return now.mood;
            case 12: return now.ahead;
            default: return -1;
        }
    }
}
