/** Promises 18 to 20 and 22 to 25: longest, orderly, to, odds, sight, forget, fits. */
public final class WaysTest {
    public static void main(String[] args) {
        longest();
        longestWithout();
        orderly();
        to();
        toAlike();
        odds();
        oddsWithout();
        sight();
        fits();
        fitsBeyond();
        fitsWithout();
        lastOfJokers();
        oneAfterAnother();
        Check.finish("WaysTest");
    }

    private static void longest() {
        Counted x = new Counted();
        int[] steps = {0, 1, 2, 4, 7, 10, 16};
        int[] many = {1, 1, 2, 2, 1, 5, 2};
        int[][] first = {{1}, {2, 1}, {2, 3, 1}, {2, 4, 1, 3}, {3, 1, 4, 5, 2}, {3, 6, 5, 1, 4, 2}, {3, 1, 4, 6, 7, 5, 2}};
        for (int n = 1; n <= 7; n++) {
            Check.due("longest(" + n + ", 0)", x.longest(n, 0), steps[n - 1]);
            Check.due("longest(" + n + ", 1)", x.longest(n, 1), many[n - 1]);
            for (int place = 0; place < n; place++) {
                Check.due("longest(" + n + ", " + (place + 2) + ")", x.longest(n, place + 2), first[n - 1][place]);
            }
            Check.due("behind its last card", x.longest(n, n + 2), -1);
        }
        x.terms(1, 16);
        Check.due("16 are looked at", x.longest(7, 0), 16);
        x.terms(1, 15);
        Check.due("15 are looked at", x.longest(7, 0), 15);
        x.terms(1, 1);
        Check.due("1 is looked at", x.longest(3, 0), 1);
        Check.due("so long", x.longest(3, 1), 2);
        Check.due("the first", x.longest(3, 2), 2);
        Check.due("the first", x.longest(3, 3), 1);
        Counted y = new Counted();
        y.law("ends if last=2;turns last+1");
        y.force(0);
        Check.due("a law that asks last", y.longest(3, 0), 2);
        Check.due("all of them", y.longest(3, 1), 6);
        Check.due("the first", y.longest(3, 2), 1);
        y.law("ends if mood=3");
        y.force(1);
        Check.due("a law that asks the mood", y.longest(3, 0), -1);
        y.terms(0, 3);
        Check.due("a law that asks the mood", y.longest(3, 0), 0);
        y.terms(0, 4);
        Check.due("a law that asks the mood", y.longest(3, 0), -1);
    }

    private static void longestWithout() {
        Counted x = new Counted();
        for (int n : new int[] {0, 8, -1, Integer.MIN_VALUE, Integer.MAX_VALUE}) {
            Check.due("longest of " + n, x.longest(n, 0), -1);
            Check.due("orderly of " + n, x.orderly(n, 0), -1);
        }
        for (int what : new int[] {-1, 10, Integer.MIN_VALUE, Integer.MAX_VALUE}) {
            Check.due("longest what " + what, x.longest(7, what), -1);
            Check.due("orderly what " + what, x.orderly(7, what), -1);
        }
        Check.due("orderly what 4", x.orderly(7, 4), -1);
        x.law("ends if 1=2");
        x.force(0);
        for (int what = 0; what < 4; what++) {
            Check.due("none ends", x.longest(3, what), -1);
        }
        Check.due("not refused", x.count(5), 0);
    }

    private static void isOrderly(Counted x, int n, int... want) {
        for (int what = 0; what < 4; what++) {
            Check.due("orderly(" + n + ", " + what + ")", x.orderly(n, what), want[what]);
        }
    }

    private static void orderly() {
        Counted x = new Counted();
        isOrderly(x, 1, 1, 0, 0, 1);
        isOrderly(x, 2, 2, 0, 0, 2);
        isOrderly(x, 3, 6, 0, 0, 5);
        Check.due("all of seven end", x.orderly(7, 0), 5040);
        x.terms(1, 1);
        isOrderly(x, 3, 4, 0, 2, 3);
        x.terms(1, 2);
        isOrderly(x, 3, 6, 0, 0, 5);
        x.law("turns top+1");
        x.force(0);
        isOrderly(x, 2, 1, 1, 0, 1);
        x.law("turns 0;ends if top=2");
        x.force(1);
        isOrderly(x, 2, 1, 0, 1, 0);
        isOrderly(x, 3, 2, 0, 4, 0);
        x.law("turns 0-1 if second=2;turns many if second=1;ends if top=1");
        x.force(2);
        // 123 132 have ended; 213 becomes 312, that 213: round; 231 312 321: 231 turns 2, is 321, which sticks.
        isOrderly(x, 3, 2, 2, 2, 1);
        x.terms(1, 1);
        isOrderly(x, 3, 2, 2, 2, 1);
        x.law("turns last+1;ends if last=3");
        x.force(3);
        x.terms(1, 3);
        Check.due("a law that asks last", x.orderly(3, 0), 6);
        x.terms(1, 2);
        Check.due("a law that asks last", x.orderly(3, 2), 6);
    }

    private static void row(Counted x, boolean to, int heap, int i, int... cards) {
        for (int place = 0; place < cards.length; place++) {
            int got = to ? x.to(heap, i, place) : x.fits(heap, i, place);
            Check.due((to ? "to" : "fits") + " the " + i + "-th, place " + place, got, cards[place]);
        }
        Check.due("behind its last card", to ? x.to(heap, i, cards.length) : x.fits(heap, i, cards.length), -1);
        Check.due("ahead of its first card", to ? x.to(heap, i, -1) : x.fits(heap, i, -1), -1);
    }

    private static void to() {
        Counted x = Counted.with(1, 2, 3);
        Check.due("how many", x.to(0, -1, 0), 2);
        Check.due("the place does not matter then", x.to(0, -1, 99), 2);
        row(x, true, 0, 0, 2, 1, 3);
        row(x, true, 0, 1, 3, 2, 1);
        Check.due("no third", x.to(0, 2, 0), -1);
        Check.due("no -2", x.to(0, -2, 0), -1);
        Check.due("least", x.to(0, Integer.MIN_VALUE, 0), -1);
        Check.due("greatest", x.to(0, Integer.MAX_VALUE, 0), -1);
        Check.due("no heap", x.to(1, -1, 0), -1);
        Check.due("no heap", x.to(-1, -1, 0), -1);
        x.heap(1, 2, 3, 4, 5, 6, 7);
        Check.due("seven cards", x.to(1, -1, 0), 6);
        row(x, true, 1, 5, 7, 6, 5, 4, 3, 2, 1);
        x.heap(1, 2, 3, 4, 5, 6, 7, 8);
        Check.due("eight cards", x.to(2, -1, 0), -1);
        x.heap(1);
        Check.due("one card", x.to(3, -1, 0), 0);
        x.heap(3, 1, 2);
        Check.due("none", x.to(4, -1, 0), 0);
        Check.due("none", x.to(4, 0, 0), -1);
        x.terms(1, 1);
        Check.due("heap 0 again", x.to(0, -1, 0), 2);
    }

    private static void toAlike() {
        Counted x = Counted.with(1, 2, 2);
        Check.due("alike cards", x.to(0, -1, 0), 1);
        row(x, true, 0, 0, 2, 1, 2);
        x.heap(2, 2, 1);
        Check.due("to itself", x.to(1, -1, 0), 1);
        row(x, true, 1, 0, 2, 2, 1);
        x.heap(0, 2);
        Check.due("a joker turns none from last 0", x.to(2, -1, 0), 2);
        row(x, true, 2, 0, 0, 2);
        row(x, true, 2, 1, 2, 0);
        x.step(2);
        x.swap(2, 0, 1);
        x.step(2);
        Check.due("the heap's last does not matter", x.to(2, -1, 0), 2);
        Counted y = Counted.under("turns 0;sinks 1;ends if top=3", 1, 2, 3);
        Check.due("cut to", y.to(0, -1, 0), 0);
        y.cut(0, 1);
        Check.due("cut to", y.to(0, -1, 0), 1);
        row(y, true, 0, 0, 1, 2, 3);
    }

    private static void isOdds(Counted x, int heap, int seen, int c, int upper, int lower) {
        Check.due("odds(" + heap + ", " + seen + ", " + c + ", 0)", x.odds(heap, seen, c, 0), upper);
        Check.due("odds(" + heap + ", " + seen + ", " + c + ", 1)", x.odds(heap, seen, c, 1), lower);
    }

    private static void odds() {
        Counted x = Counted.with(3, 1, 2);
        isOdds(x, 0, 0, 0, 1, 3);
        isOdds(x, 0, 0, 1, 1, 3);
        isOdds(x, 0, 0, 2, 1, 3);
        isOdds(x, 0, 0, 3, 0, 1);
        isOdds(x, 0, 0, 300, 0, 1);
        isOdds(x, 0, 1, 1, 1, 2);
        isOdds(x, 0, 2, 2, 1, 1);
        isOdds(x, 0, 3, 2, 1, 1);
        isOdds(x, 0, 3, 1, 0, 1);
        x.heap(2, 2, 1);
        isOdds(x, 1, 0, 0, 1, 3);
        isOdds(x, 1, 0, 1, 1, 3);
        isOdds(x, 1, 1, 1, 1, 2);
        isOdds(x, 1, 2, 1, 0, 1);
        x.heap(7, 6, 5, 4, 3, 2, 1);
        isOdds(x, 2, 0, 16, 1, 2520);
        isOdds(x, 2, 0, 0, 1, 7);
        isOdds(x, 2, 7, 1, 1, 1);
        x.terms(1, 16);
        isOdds(x, 2, 0, 16, 1, 2520);
        x.terms(1, 15);
        isOdds(x, 2, 0, 16, 0, 1);
        isOdds(x, 0, 0, 2, 1, 3);
        x.heap(1);
        isOdds(x, 3, 0, 0, 1, 1);
        isOdds(x, 3, 1, 0, 1, 1);
        x.heap(2, 0, 1);
        x.step(4);
        x.lies(4, 0, 2, 1);
        // From last 0 a joker on top stays for ever.
        isOdds(x, 4, 1, 1, 0, 1);
        isOdds(x, 4, 0, 1, 1, 6);
    }

    private static void oddsWithout() {
        Counted x = Counted.with(3, 1, 2);
        Check.due("more are seen than there are", x.odds(0, 4, 0, 0), -1);
        Check.due("eight are seen", x.odds(0, 8, 0, 0), -1);
        Check.due("seen -1", x.odds(0, -1, 0, 0), -1);
        Check.due("seen least", x.odds(0, Integer.MIN_VALUE, 0, 0), -1);
        Check.due("c 301", x.odds(0, 0, 301, 0), -1);
        Check.due("c -1", x.odds(0, 0, -1, 0), -1);
        Check.due("what 2", x.odds(0, 0, 0, 2), -1);
        Check.due("what -1", x.odds(0, 0, 0, -1), -1);
        Check.due("no heap", x.odds(1, 0, 0, 0), -1);
        Check.due("no heap", x.odds(-1, 0, 0, 0), -1);
        x.heap(1, 2, 3, 4, 5, 6, 7, 8);
        Check.due("eight cards", x.odds(1, 7, 0, 0), -1);
    }

    private static void sight() {
        Counted x = new Counted();
        Check.due("least", x.sight(0, 0), 1);
        Check.due("greatest", x.sight(99, 13), 2);
        Check.due("k 100", x.sight(100, 1), -1);
        Check.due("status", x.status(), -1);
        Check.due("k -1", x.sight(-1, 1), -1);
        Check.due("card 14", x.sight(0, 14), -1);
        Check.due("card -1", x.sight(0, -1), -1);
        Check.due("least", x.sight(Integer.MIN_VALUE, Integer.MIN_VALUE), -1);
        for (int i = 3; i <= 8; i++) {
            Check.due("sight", x.sight(1, 1), i);
        }
        Check.due("the ninth", x.sight(1, 1), -5);
        Check.due("status", x.status(), -5);
        Check.due("a number that can't be is ahead", x.sight(100, 1), -1);
        Check.due("count(1)", x.count(1), 8);
        Check.due("count(5)", x.count(5), 6);
        Check.due("count(8)", x.count(8), 1);
        Check.due("forget", x.forget(), 8);
        Check.due("status is not touched", x.status(), -1);
        Check.due("forget", x.forget(), 0);
        Check.due("one again", x.sight(1, 1), 1);
    }

    private static void fits() {
        Counted x = Counted.with(3, 1, 2);
        Check.due("without sights", x.fits(0, -1, 0), 6);
        row(x, false, 0, 0, 1, 2, 3);
        row(x, false, 0, 5, 3, 2, 1);
        Check.due("no seventh", x.fits(0, 6, 0), -1);
        x.sight(0, 3);
        Check.due("top 3", x.fits(0, -1, 0), 2);
        row(x, false, 0, 0, 3, 1, 2);
        row(x, false, 0, 1, 3, 2, 1);
        x.sight(1, 1);
        Check.due("then 1", x.fits(0, -1, 0), 1);
        row(x, false, 0, 0, 3, 2, 1);
        x.sight(0, 3);
        Check.due("the same twice", x.fits(0, -1, 0), 1);
        x.sight(0, 2);
        Check.due("two unlike ones", x.fits(0, -1, 0), 0);
        x.sight(0, 3);
        Check.due("and the first again", x.fits(0, -1, 0), 0);
        x.forget();
        x.sight(1, 1);
        Check.due("an ace behind one step", x.fits(0, -1, 0), 2);
        x.sight(2, 1);
        Check.due("no step behind the end", x.fits(0, -1, 0), 0);
        x.forget();
        x.sight(0, 1);
        x.heap(2, 2, 1, 1);
        Check.due("alike ones", x.fits(1, -1, 0), 3);
        row(x, false, 1, 0, 1, 1, 2, 2);
        row(x, false, 1, 1, 1, 2, 1, 2);
        row(x, false, 1, 2, 1, 2, 2, 1);
    }

    private static void fitsBeyond() {
        Counted x = Counted.with(0, 5);
        x.sight(99, 0);
        Check.due("a joker for ever", x.fits(0, -1, 0), 1);
        row(x, false, 0, 0, 0, 5);
        x.forget();
        x.sight(2, 1);
        x.heap(1, 2, 3);
        x.terms(1, 1);
        Check.due("beyond what is looked ahead", x.fits(1, -1, 0), 2);
        row(x, false, 1, 0, 2, 3, 1);
        row(x, false, 1, 1, 3, 1, 2);
        Counted y = Counted.under("turns 0;sinks 1;ends if 1=2", 1, 2, 3, 4, 5, 6, 7);
        y.sight(99, 7);
        y.sight(98, 6);
        Check.due("round and round", y.fits(0, -1, 0), 120);
        // 98 are fourteen rounds, so the top of then is the first one's, and one step on it is the second.
        row(y, false, 0, 0, 6, 7, 1, 2, 3, 4, 5);
    }

    private static void fitsWithout() {
        Counted x = Counted.with(1, 2, 3, 4, 5, 6, 7);
        Check.due("seven cards", x.fits(0, -1, 0), 5040);
        row(x, false, 0, 5039, 7, 6, 5, 4, 3, 2, 1);
        x.heap(1, 2, 3, 4, 5, 6, 7, 8);
        Check.due("eight cards", x.fits(1, -1, 0), -1);
        Check.due("no heap", x.fits(2, -1, 0), -1);
        Check.due("no heap", x.fits(-1, -1, 0), -1);
        Check.due("i -2", x.fits(0, -2, 0), -1);
        Check.due("i least", x.fits(0, Integer.MIN_VALUE, 0), -1);
        Check.due("i greatest", x.fits(0, Integer.MAX_VALUE, 0), -1);
        Check.due("the place does not matter", x.fits(0, -1, -9), 5040);
    }

    /** The same cards with another last are another time. */
    private static void lastOfJokers() {
        Counted x = Counted.with(2, 0, 1);
        x.sight(0, 2);
        x.sight(1, 0);
        x.sight(2, 2);
        x.sight(99, 0);
        Check.due("a joker turns two, again and again", x.fits(0, -1, 0), 1);
        row(x, false, 0, 0, 2, 0, 1);
        x.forget();
        x.sight(0, 0);
        x.sight(9, 0);
        Check.due("a joker turns none from last 0", x.fits(0, -1, 0), 2);
        // 2031 0231(2) 3120 2130 1230, but 0231(0) 3102 0132 0231(3) 0132 comes round.
        Counted y = Counted.under("sinks 2 if top=0", 2, 0, 3, 1);
        isOdds(y, 0, 4, 4, 1, 1);
        y.swap(0, 0, 1);
        for (int c = 0; c < 9; c++) {
            isOdds(y, 0, 4, c, 0, 1);
        }
        y.swap(0, 0, 1);
        isOdds(y, 0, 4, 4, 1, 1);
        isOdds(y, 0, 3, 4, 1, 1);
        Counted z = Counted.under("sinks 2 if top=0", 0, 2, 3, 1);
        isOdds(z, 0, 4, 3, 0, 1);
        z.swap(0, 0, 1);
        isOdds(z, 0, 4, 4, 1, 1);
    }

    /** What is remembered of one heap, law, mood must not be taken for another's. */
    private static void oneAfterAnother() {
        Counted x = Counted.with(3, 1, 2);
        x.heap(3, 1, 2);
        x.law("ends if heap=1;ends if mood=5;ends if top=1");
        isOdds(x, 0, 0, 2, 1, 3);
        x.force(0);
        isOdds(x, 1, 0, 0, 1, 1);
        isOdds(x, 0, 0, 0, 1, 3);
        x.terms(0, 5);
        isOdds(x, 0, 0, 0, 1, 1);
        x.terms(0, 0);
        isOdds(x, 0, 0, 0, 1, 3);
        Check.due("longest", x.longest(3, 0), 2);
        x.swap(0, 0, 1);
        isOdds(x, 0, 1, 0, 1, 1);
        Check.due("longest", x.longest(4, 0), 4);
        Check.due("longest", x.longest(3, 0), 2);
        x.image(0);
        x.force(-1);
        x.back(0);
        x.law("ends");
        x.force(1);
        Check.due("longest", x.longest(3, 0), 0);
        Check.due("longest", x.longest(3, 1), 6);
        x.back(0);
        x.law("ends if top=2");
        x.force(1);
        Check.due("another law of the same number", x.longest(3, 0), 1);
        Check.due("another law of the same number", x.longest(3, 2), 3);
        Counted y = new Counted();
        y.image(0);
        y.heap(1, 2, 3);
        isOdds(y, 0, 0, 0, 1, 3);
        y.back(0);
        y.heap(0, 2, 3);
        isOdds(y, 0, 0, 0, 0, 1);
        y.back(0);
        y.heap(1, 2, 1);
        isOdds(y, 0, 0, 0, 2, 3);
        y.back(0);
        y.heap(1, 2);
        isOdds(y, 0, 0, 0, 1, 2);
    }
}
