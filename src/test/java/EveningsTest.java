/** Promises 28 and 29: evenings, drawn. */
public final class EveningsTest {
    public static void main(String[] args) {
        hold();
        seeds();
        none();
        refused();
        kept();
        wayOn();
        Check.finish("EveningsTest");
    }

    private static void drawn(Counted x, int together, int most, int... beginning) {
        Check.due("together", x.drawn(0), together);
        Check.due("the most", x.drawn(1), most);
        for (int i = 0; i < beginning.length; i++) {
            Check.due("card " + i + " at the beginning", x.drawn(2 + i), beginning[i]);
        }
        Check.due("behind the last card", x.drawn(2 + beginning.length), -1);
    }

    private static void hold() {
        Counted x = Counted.with(3, 1, 2);
        Check.due("evenings", x.evenings(0, 0, 1), 1);
        drawn(x, 1, 1, 2, 1, 3);
        x.lies(0, 3, 1, 2);
        Check.due("claps", x.of(0, 1), 0);
        x.heap(2, 1);
        // The draws of 2 are 12345 and 628841: both leave it as it lies, so it ends behind 1 and behind 0.
        Check.due("the second goes on from the first's end", x.evenings(1, 0, 2), 2);
        drawn(x, 1, 1, 1, 2);
        // The draw of 2 from 1 is 13448: it changes them.
        Check.due("another seed", x.evenings(1, 1, 1), 1);
        drawn(x, 0, 0, 1, 2);
        x.heap(1);
        Check.due("one card, no draw", x.evenings(2, 7, 60), 60);
        drawn(x, 0, 0, 1);
        Check.due("what -1", x.drawn(-1), -1);
        Check.due("what least", x.drawn(Integer.MIN_VALUE), -1);
        Check.due("what greatest", x.drawn(Integer.MAX_VALUE), -1);
    }

    private static void seeds() {
        Counted x = Counted.with(1, 2, 3, 4, 5, 6, 7, 8, 9, 10, 11, 12, 13);
        Check.due("the greatest seed, the most evenings", x.evenings(0, 1000000, 60), 60);
        int together = x.drawn(0);
        int most = x.drawn(1);
        int[] beginning = new int[13];
        long s = 1000000;
        int steps = 0;
        int longest = 0;
        Counted y = Counted.with(1, 2, 3, 4, 5, 6, 7, 8, 9, 10, 11, 12, 13);
        for (int i = 0; i < 60; i++) {
            Counted z = new Counted();
            int[] cards = new int[13];
            for (int p = 0; p < 13; p++) {
                cards[p] = y.after(0, 300, p);
            }
            for (int p = 12; p >= 1; p--) {
                s = (s * 1103 + 12345) % 1000003;
                int q = (int) (s % (p + 1));
                int card = cards[p];
                cards[p] = cards[q];
                cards[q] = card;
            }
            z.heap(cards);
            beginning = cards;
            steps += z.goes(0, 1);
            longest = Math.max(longest, z.goes(0, 1));
            y = z;
        }
        Check.due("together", together, steps);
        Check.due("the most", most, longest);
        drawn(x, steps, longest, beginning);
    }

    private static void none() {
        Counted x = Counted.with(5);
        Check.due("none ends", x.evenings(0, 3, 60), 0);
        drawn(x, 0, -1, 5);
        x.heap(3, 1, 2);
        x.law("ends if 1=2");
        x.force(0);
        Check.due("none ends", x.evenings(1, 0, 1), 0);
        drawn(x, 0, -1, 2, 1, 3);
    }

    private static void refused() {
        Counted x = Counted.with(3, 1, 2);
        Check.due("none held", x.drawn(0), -1);
        Check.due("none held", x.drawn(1), -1);
        Check.due("none held", x.drawn(2), -1);
        x.evenings(0, 0, 1);
        for (int seed : new int[] {-1, 1000001, Integer.MIN_VALUE, Integer.MAX_VALUE}) {
            Check.due("seed " + seed, x.evenings(0, seed, 1), -1);
        }
        for (int n : new int[] {0, 61, -1, Integer.MIN_VALUE, Integer.MAX_VALUE}) {
            Check.due("n " + n, x.evenings(0, 0, n), -1);
        }
        Check.due("status", x.status(), -1);
        Check.due("count(5)", x.count(5), 9);
        Check.due("no heap is ahead", x.evenings(1, -1, 0), -2);
        Check.due("no heap is ahead", x.evenings(-1, -1, 0), -2);
        Check.due("status", x.status(), -2);
        Check.due("count(6)", x.count(6), 2);
        drawn(x, 1, 1, 2, 1, 3);
        Check.due("evenings again", x.evenings(0, 0, 1), 1);
        Check.due("status", x.status(), 0);
    }

    private static void kept() {
        Counted x = Counted.with(3, 1, 2);
        x.image(0);
        x.evenings(0, 0, 1);
        x.swap(0, 0, 1);
        x.back(0);
        drawn(x, 1, 1, 2, 1, 3);
    }

    /** What does not end, or has a joker, goes on from where it stopped, last being 0. */
    private static void wayOn() {
        Counted x = Counted.under("turns 0;sinks 1;ends if 1=2", 2, 1, 3);
        // 2 1 3 is shuffled to 3 1 2 (draws 0, 1) and comes round to itself.
        x.evenings(0, 0, 1);
        drawn(x, 0, -1, 3, 1, 2);
        x.terms(1, 1);
        Check.due("one step only, then again", x.evenings(0, 0, 2), 0);
        // From 3 1 2 one step leads to 1 2 3; the draws 621889 and 953857 make 1 3 2 of it.
        drawn(x, 0, -1, 1, 3, 2);
        Counted y = Counted.with(2, 1, 3);
        y.swap(0, 0, 2);
        Check.due("the same shuffled", y.evenings(0, 0, 1), 1);
        Counted z = Counted.with(0, 1);
        z.evenings(0, 0, 3);
        Check.due("last is 0 each evening", z.drawn(1) > 0 ? 1 : 0, 0);
    }
}
