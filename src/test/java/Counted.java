/**
 * A table whose calls are counted. The document leaves free what is answered behind the 512th call, so a
 * test that asks more than that tells nothing: it fails here.
 */
final class Counted {
    static final int MOST_CALLS = 512;

    private final TopSays table = new TopSays();
    private int calls;

    private TopSays next() {
        calls++;
        if (calls == MOST_CALLS + 1) {
            Check.holds("no more than 512 calls of one object", false);
        }
        return table;
    }

    int calls() {
        return calls;
    }

    /** Puts bytes behind the tape, which ends behind them; the tape must have room for whole twenties. */
    void put(int... bytes) {
        int length = count(4);
        for (int from = 0; from < bytes.length; from += 20) {
            int[] five = new int[5];
            for (int i = 0; i < 20; i++) {
                int b = from + i < bytes.length ? bytes[from + i] & 255 : 0;
                five[i / 4] = five[i / 4] << 8 | b;
            }
            Check.due("feed", feed(five[0], five[1], five[2], five[3], five[4]), length + from + 20);
        }
        if (bytes.length % 20 != 0) {
            Check.due("end", end(length + bytes.length), length + bytes.length);
        }
    }

    void put(String text) {
        put(text.chars().toArray());
    }

    int heap(int... cards) {
        put(cards);
        return heap();
    }

    int law(String text) {
        put(text);
        return law();
    }

    int orders(String text) {
        put(text);
        return orders();
    }

    /** A new table with one heap. */
    static Counted with(int... cards) {
        Counted x = new Counted();
        Check.due("heap", x.heap(cards), 0);
        return x;
    }

    /** A new table with one heap, and a law in force. */
    static Counted under(String law, int... cards) {
        Counted x = with(cards);
        Check.due("law " + law, x.law(law), 0);
        Check.due("force", x.force(0), -1);
        return x;
    }

    void lies(int heap, int... cards) {
        Check.due("how many cards of heap " + heap, of(heap, 0), cards.length);
        for (int i = 0; i < cards.length; i++) {
            Check.due("card " + i + " of heap " + heap, of(heap, 7 + i), cards[i]);
        }
        Check.due("behind the last card of heap " + heap, of(heap, 7 + cards.length), -1001);
    }

    int feed(int a, int b, int c, int d, int e) {
        return next().feed(a, b, c, d, e);
    }

    int end(int n) {
        return next().end(n);
    }

    int heap() {
        return next().heap();
    }

    int of(int heap, int what) {
        return next().of(heap, what);
    }

    int terms(int what, int value) {
        return next().terms(what, value);
    }

    int law() {
        return next().law();
    }

    int orders() {
        return next().orders();
    }

    int fault() {
        return next().fault();
    }

    int stopped() {
        return next().stopped();
    }

    int force(int law) {
        return next().force(law);
    }

    int step(int heap) {
        return next().step(heap);
    }

    int swap(int heap, int one, int other) {
        return next().swap(heap, one, other);
    }

    int cut(int heap, int many) {
        return next().cut(heap, many);
    }

    int undo() {
        return next().undo();
    }

    int goes(int heap, int what) {
        return next().goes(heap, what);
    }

    int after(int heap, int n, int place) {
        return next().after(heap, n, place);
    }

    int longest(int n, int what) {
        return next().longest(n, what);
    }

    int orderly(int n, int what) {
        return next().orderly(n, what);
    }

    int to(int heap, int i, int place) {
        return next().to(heap, i, place);
    }

    int cheat(int heap, int what) {
        return next().cheat(heap, what);
    }

    int odds(int heap, int seen, int c, int what) {
        return next().odds(heap, seen, c, what);
    }

    int sight(int k, int card) {
        return next().sight(k, card);
    }

    int forget() {
        return next().forget();
    }

    int fits(int heap, int i, int place) {
        return next().fits(heap, i, place);
    }

    int race(int one, int other) {
        return next().race(one, other);
    }

    int sorted(int heap, int what) {
        return next().sorted(heap, what);
    }

    int evenings(int heap, int seed, int n) {
        return next().evenings(heap, seed, n);
    }

    int drawn(int what) {
        return next().drawn(what);
    }

    int image(int k) {
        return next().image(k);
    }

    int back(int k) {
        return next().back(k);
    }

    int count(int what) {
        return next().count(what);
    }

    int status() {
        return next().status();
    }
}
