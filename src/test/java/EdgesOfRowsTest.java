import java.util.ArrayList;
import java.util.List;

/**
 * The edges of what promises 18 to 20, 22 and 25 ask of all rows: jokers and laws that ask what was turned last, alike
 * cards, the mood, numbers of heaps that begin again. What is due is told by each row alone, as a heap that goes on.
 */
public final class EdgesOfRowsTest {
    private static final String BY_LAST = "turns [last+top]%[under+1] if second>0;sinks last%2";
    private static final int[][] HEAPS = {{2, 0, 1}, {0, 0, 1, 2}, {2, 2, 1, 1}, {2, 0, 3, 1}, {3, 0, 2, 2}, {4, 4, 1, 2}, {5, 1, 2}, {0},
        {0, 3, 0, 1}};

    public static void main(String[] args) {
        rowsOfAHeap();
        ordersOfCards();
        ordersByLast();
        oddsByPlaces();
        fitsByRows();
        leadsByRows();
        rowsHaveNoLast();
        rowsHaveTheHeapsNumber();
        ordersHaveNoNumber();
        byTheMoodAsItIs();
        byTheLawInForce();
        numbersBeginAgain();
        unlikeSightsOfOneStep();
        Check.finish("EdgesOfRowsTest");
    }

    /** All orders of cards by places from a place on, alike ones, too. */
    private static List<int[]> byPlaces(int[] cards, int from) {
        List<int[]> all = new ArrayList<>();
        if (from >= cards.length) {
            all.add(cards.clone());
            return all;
        }
        for (int i = from; i < cards.length; i++) {
            int[] next = cards.clone();
            next[from] = cards[i];
            next[i] = cards[from];
            all.addAll(byPlaces(next, from + 1));
        }
        return all;
    }

    /** All unlike rows, the first ones by their first cards. */
    private static List<int[]> unlike(int[] cards) {
        List<int[]> all = byPlaces(cards, 0);
        all.sort(java.util.Arrays::compare);
        List<int[]> rows = new ArrayList<>();
        for (int[] row : all) {
            if (rows.isEmpty() || !java.util.Arrays.equals(rows.get(rows.size() - 1), row)) {
                rows.add(row);
            }
        }
        return rows;
    }

    private static Counted alone(String law, int[] cards) {
        return law.isEmpty() ? Counted.with(cards) : Counted.under(law, cards);
    }

    /** Whether so many steps can be made on a heap. */
    private static boolean canBe(Counted row, int steps) {
        return row.goes(0, 0) >= 2 || steps <= row.goes(0, 1);
    }

    private static void rowsOfAHeap() {
        Edge.says(25, "ROWS of a HEAP (7 CARDS at most): all unlike rows of its CARDS, the first ones by their first CARDS, and so on "
                + "(LAST 0, its number).");
        for (int[] cards : HEAPS) {
            Counted x = Counted.with(cards);
            List<int[]> rows = unlike(cards);
            Check.due("how many", x.fits(0, -1, 0), rows.size());
            for (int i = 0; i < rows.size(); i++) {
                for (int place = 0; place < cards.length; place++) {
                    Check.due("row " + i + ", place " + place, x.fits(0, i, place), rows.get(i)[place]);
                }
            }
            Check.due("behind the last", x.fits(0, rows.size(), 0), -1);
        }
    }

    private static void ordersOfCards() {
        Edge.says(19, "ORDERS of n CARDS: all rows of 1 .. n, each once (LAST 0, no HEAP).");
        for (String law : new String[] {"", BY_LAST, "turns last+1;ends if last=3", "turns top+last;sinks 1"}) {
            for (int n = 1; n <= 5; n++) {
                orders(law, n);
            }
        }
    }

    /** Counts by each order alone how many end, stick, go on, end rising, and which the longest are. */
    private static void orders(String law, int n) {
        int[] cards = new int[n];
        for (int i = 0; i < n; i++) {
            cards[i] = i + 1;
        }
        int[] counts = new int[4];
        int longest = -1;
        int soLong = 0;
        int[] first = cards;
        for (int[] order : unlike(cards)) {
            Counted row = alone(law, order);
            int how = row.goes(0, 0);
            int steps = row.goes(0, 1);
            counts[Math.min(how, 2)]++;
            if (how == 0) {
                boolean rises = true;
                for (int i = 0; i < n; i++) {
                    rises = rises && row.after(0, steps, i) == i + 1;
                }
                counts[3] += rises ? 1 : 0;
                first = steps > longest ? order : first;
                soLong = steps > longest ? 1 : soLong + (steps == longest ? 1 : 0);
                longest = Math.max(longest, steps);
            }
        }
        Counted x = new Counted();
        if (!law.isEmpty()) {
            x.law(law);
            x.force(0);
        }
        for (int what = 0; what < 4; what++) {
            Check.due("orderly(" + n + ", " + what + ") by " + law, x.orderly(n, what), counts[what]);
        }
        Check.due("longest(" + n + ", 0) by " + law, x.longest(n, 0), longest);
        Check.due("longest(" + n + ", 1) by " + law, x.longest(n, 1), longest < 0 ? -1 : soLong);
        for (int i = 0; i < n; i++) {
            Check.due("longest(" + n + ", " + (2 + i) + ") by " + law, x.longest(n, 2 + i), longest < 0 ? -1 : first[i]);
        }
    }

    private static void ordersByLast() {
        Edge.says(18, "all rows of 1 .. n, each once (LAST 0, no HEAP)");
        Counted x = new Counted();
        x.law("ends if last=2;turns last+1");
        x.force(0);
        Check.due("last is 0, 1, 2", x.longest(3, 0), 2);
        Check.due("of all", x.longest(3, 1), 6);
        Check.due("two is more than one card has", x.longest(1, 0), -1);
        Check.due("one card sticks", x.orderly(1, 1), 1);
        Check.due("last can be seven", x.longest(7, 1), 5040);
    }

    private static void oddsByPlaces() {
        Edge.says(22, "of all orders of the others (by places, alike ones, too; LAST 0) in how many it ENDS behind just c STEPS: "
                + "as a fraction in lowest terms.");
        for (String law : new String[] {"", BY_LAST}) {
            for (int[] cards : HEAPS) {
                Counted x = alone(law, cards);
                for (int seen = 0; seen <= cards.length; seen++) {
                    List<int[]> orders = byPlaces(cards, seen);
                    int[] ends = new int[301];
                    for (int[] order : orders) {
                        Counted row = alone(law, order);
                        if (row.goes(0, 0) == 0) {
                            ends[row.goes(0, 1)]++;
                        }
                    }
                    for (int c = 0; c <= 6; c++) {
                        int upper = x.odds(0, seen, c, 0);
                        int lower = x.odds(0, seen, c, 1);
                        Check.due("the fraction", (long) upper * orders.size(), (long) lower * ends[c]);
                        Check.holds("in lowest terms", upper == 0 ? lower == 1 : divisor(upper, lower) == 1);
                    }
                }
            }
        }
    }

    private static int divisor(int a, int b) {
        return b == 0 ? a : divisor(b, a % b);
    }

    private static void fitsByRows() {
        Edge.says(25, "FITTING: ROWS by which behind k STEPS (all of which can be) each SIGHT's TOP was so.");
        int[][] sights = {{0, 0}, {1, 0}, {1, 2}, {2, 1}, {2, 0}, {3, 2}, {5, 0}, {7, 3}, {99, 0}, {98, 2}};
        for (String law : new String[] {"", BY_LAST}) {
            for (int[] cards : HEAPS) {
                for (int[] sight : sights) {
                    Counted x = alone(law, cards);
                    x.sight(sight[0], sight[1]);
                    int found = 0;
                    for (int[] order : unlike(cards)) {
                        Counted row = alone(law, order);
                        if (canBe(row, sight[0]) && row.after(0, sight[0], 0) == sight[1]) {
                            for (int place = 0; place < cards.length; place++) {
                                Check.due("row " + found + ", place " + place, x.fits(0, found, place), order[place]);
                            }
                            found++;
                        }
                    }
                    Check.due("behind " + sight[0] + " a " + sight[1], x.fits(0, -1, 0), found);
                }
            }
        }
    }

    private static void leadsByRows() {
        Edge.says(20, "What leads TO a HEAP: ROWS of it by one STEP of which its CARDS lie as now.");
        for (String law : new String[] {"", BY_LAST}) {
            for (int[] cards : HEAPS) {
                Counted x = alone(law, cards);
                int found = 0;
                for (int[] order : unlike(cards)) {
                    Counted row = alone(law, order);
                    boolean leads = canBe(row, 1);
                    for (int place = 0; place < cards.length; place++) {
                        leads = leads && row.after(0, 1, place) == cards[place];
                    }
                    if (leads) {
                        for (int place = 0; place < cards.length; place++) {
                            Check.due("row " + found + ", place " + place, x.to(0, found, place), order[place]);
                        }
                        found++;
                    }
                }
                Check.due("how many", x.to(0, -1, 0), found);
                Check.due("behind the last", x.to(0, found, 0), -1);
            }
        }
    }

    private static void rowsHaveNoLast() {
        Edge.says(25, "(LAST 0, its number)");
        Counted x = Counted.with(2, 0, 1);
        x.step(0);
        x.lies(0, 0, 2, 1);
        Check.due("the heap's own last", x.of(0, 2), 2);
        x.sight(0, 0);
        x.sight(1, 0);
        Check.due("a joker turns none", x.fits(0, -1, 0), 2);
        Edge.says(20, "(LAST 0, its number)");
        // 0 2 1 leads to itself, 2 0 1 to it, too.
        Check.due("to", x.to(0, -1, 0), 2);
        Check.due("the first's top", x.to(0, 0, 0), 0);
        Check.due("the second's top", x.to(0, 1, 0), 2);
    }

    private static void rowsHaveTheHeapsNumber() {
        Edge.says(22, "(LAST 0, its number)");
        Counted x = Counted.under("ends if heap=1", 3, 1, 2);
        x.heap(3, 1, 2);
        for (int i = 0; i < 2; i++) {
            Check.due("of heap 1", x.odds(1, 0, 0, 0), 1);
            Check.due("of heap 0", x.odds(0, 0, 0, 0), 0);
        }
    }

    private static void ordersHaveNoNumber() {
        Edge.says(19, "each once (LAST 0, no HEAP)");
        Counted x = Counted.under("ends if heap=0-1", 3, 1, 2);
        x.heap(3, 1, 2);
        for (int heap = 0; heap < 2; heap++) {
            x.goes(heap, 0);
            x.sorted(heap, 0);
            x.race(heap, heap);
            Check.due("orders behind what was asked of heap " + heap, x.orderly(3, 0), 6);
            Check.due("orders behind what was asked of heap " + heap, x.longest(3, 0), 0);
            Check.due("rows of heap " + heap, x.odds(heap, 0, 0, 0), 0);
        }
    }

    private static void byTheMoodAsItIs() {
        Edge.says(6, "TERMS: 0 MOOD 0 .. 9 (0 at first)");
        Counted x = Counted.under("ends if mood=9;turns 0", 3, 1, 2);
        for (int i = 0; i < 2; i++) {
            x.terms(0, 0);
            Check.due("longest in mood 0", x.longest(3, 0), -1);
            Check.due("orderly in mood 0", x.orderly(3, 2), 6);
            x.terms(0, 9);
            Check.due("longest in mood 9", x.longest(3, 0), 0);
            x.terms(0, 8);
            Check.due("orderly in mood 8", x.orderly(3, 0), 0);
            Check.due("odds in mood 8", x.odds(0, 0, 0, 0), 0);
            Check.due("to in mood 8", x.to(0, -1, 0), 1);
            x.terms(0, 9);
            Check.due("odds in mood 9", x.odds(0, 0, 0, 0), 1);
            Check.due("to in mood 9", x.to(0, -1, 0), 0);
            Check.due("longest in mood 9 again", x.longest(3, 0), 0);
        }
    }

    private static void byTheLawInForce() {
        Edge.says(11, "A LAW is in FORCE (NONE: none): which was.");
        Counted x = Counted.with(3, 1, 2);
        x.law("ends");
        x.law("ends if 1=2;turns 0");
        for (int i = 0; i < 2; i++) {
            x.force(0);
            Check.due("longest by law 0", x.longest(3, 0), 0);
            x.force(1);
            Check.due("longest by law 1", x.longest(3, 0), -1);
            Check.due("to by law 1", x.to(0, -1, 0), 1);
            x.force(-1);
            Check.due("to by none", x.to(0, -1, 0), 0);
            Check.due("longest by none", x.longest(3, 0), 2);
        }
    }

    private static void numbersBeginAgain() {
        Edge.says(31, "BACK to one all that it keeps is as it was then (IMAGES stay).");
        Counted x = new Counted();
        x.image(0);
        x.heap(3, 1, 2);
        Check.due("a heap 0", x.odds(0, 0, 2, 0), 1);
        Check.due("all rows", x.fits(0, -1, 0), 6);
        x.back(0);
        x.heap(4, 4, 4);
        Check.due("another heap 0", x.odds(0, 0, 2, 0), 0);
        Check.due("one row", x.fits(0, -1, 0), 1);
        Check.due("its top", x.fits(0, 0, 0), 4);
        x.back(0);
        x.heap(0, 1, 1);
        Check.due("a third heap 0", x.odds(0, 0, 0, 0), 2);
        Check.due("of three", x.odds(0, 0, 0, 1), 3);
        x.back(0);
        x.heap(1, 2);
        Check.due("a heap 0 of two", x.odds(0, 0, 0, 1), 2);
        Check.due("its rows", x.fits(0, -1, 0), 2);
        x.back(0);
        x.heap(0, 1, 2);
        Check.due("one with a joker more", x.odds(0, 0, 0, 1), 3);
        Check.due("its rows", x.fits(0, -1, 0), 6);
        x.back(0);
        x.law("ends");
        x.force(0);
        Check.due("a law 0", x.longest(3, 1), 6);
        x.back(0);
        x.law("ends if top=2");
        x.force(0);
        Check.due("another law 0", x.orderly(2, 3), 0);
    }

    private static void unlikeSightsOfOneStep() {
        Edge.says(25, "each SIGHT's TOP was so.");
        int[][] sights = {{3, 2}, {3, 2, 3}, {3, 2, 2}, {2, 3}, {12, 13}, {13, 12}, {0, 13}, {3, 2, 13}};
        for (int[] cards : sights) {
            Counted x = Counted.with(12, 13, 3, 2, 0);
            for (int card : cards) {
                x.sight(0, card);
            }
            Check.due("no top is two cards", x.fits(0, -1, 0), 0);
        }
        Counted y = Counted.with(12, 13, 3, 2, 0);
        y.sight(0, 13);
        y.sight(0, 13);
        Check.due("the same twice", y.fits(0, -1, 0), 24);
    }
}
