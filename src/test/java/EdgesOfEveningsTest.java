/** The edges of promises 28 and 29: evenings, drawn. */
public final class EdgesOfEveningsTest {
    private static final int LEAST = Integer.MIN_VALUE;
    private static final int GREATEST = Integer.MAX_VALUE;

    public static void main(String[] args) {
        oneAndSixtyEvenings();
        leastAndGreatestSeed();
        drawsByHand();
        drawsGoRound();
        oneCardIsNotShuffled();
        fromTheEndOfTheEveningBefore();
        lastIsNothing();
        endsAtLong();
        onPaper();
        numbersThatCannotBe();
        withoutSuchAHeap();
        noneHeld();
        noneEnded();
        placesOfTheBeginning();
        drawnWithout();
        theLatestStay();
        Check.finish("EdgesOfEveningsTest");
    }

    private static void drawn(Counted x, int together, int most, int... beginning) {
        Check.due("together", x.drawn(0), together);
        Check.due("the most", x.drawn(1), most);
        for (int i = 0; i < beginning.length; i++) {
            Check.due("card " + i + " at the beginning", x.drawn(2 + i), beginning[i]);
        }
        Check.due("behind the last card", x.drawn(2 + beginning.length), -1);
    }

    private static void oneAndSixtyEvenings() {
        Edge.says(28, "EVENINGS with a SEED, n 1 .. 60, on paper");
        Counted x = Counted.with(3, 1, 2);
        Check.due("one", x.evenings(0, 0, 1), 1);
        drawn(x, 1, 1, 2, 1, 3);
        Check.due("sixty", x.evenings(0, 7, 60), 60);
        drawn(x, 60, 2, 1, 2, 3);
        x.heap(4, 3, 1, 2, 9);
        Check.due("34 of sixty", x.evenings(1, 123456, 60), 34);
        drawn(x, 27, 4, 1, 9, 4, 2, 3);
        x.heap(5, 3, 1, 2, 4);
        Check.due("all of sixty", x.evenings(2, 123456, 60), 60);
        drawn(x, 138, 7, 3, 1, 2, 4, 5);
        Check.due("none", x.evenings(0, 0, 0), -1);
        Check.due("61", x.evenings(0, 0, 61), -1);
    }

    private static void leastAndGreatestSeed() {
        Edge.says(28, "s is the SEED (0 .. 1,000,000)");
        Counted x = Counted.with(3, 1, 2);
        // From 0 the draws are 12345 % 3 = 0, 628841 % 2 = 1.
        Check.due("0", x.evenings(0, 0, 1), 1);
        drawn(x, 1, 1, 2, 1, 3);
        // From 1,000,000 they are 9036 % 3 = 0, 979026 % 2 = 0.
        Check.due("1,000,000", x.evenings(0, 1000000, 1), 1);
        drawn(x, 0, 0, 1, 2, 3);
        // From 999,999 they are 7933 % 3 = 1, 762420 % 2 = 0.
        Check.due("999,999", x.evenings(0, 999999, 1), 1);
        drawn(x, 2, 2, 2, 3, 1);
        Check.due("1,000,001", x.evenings(0, 1000001, 1), -1);
        Check.due("-1", x.evenings(0, -1, 1), -1);
    }

    private static void drawsByHand() {
        Edge.says(28, "are shuffled: from the lowest place up to the second one, each with the place that a DRAW of how many there are "
                + "down to it tells; then it goes on (LAST 0).");
        // From 5 the draws are 17860 % 4 = 0, 711868 % 3 = 1, 200394 % 2 = 0: 9 8 7 6, 6 8 7 9, 6 7 8 9, 7 6 8 9.
        Counted x = Counted.with(9, 8, 7, 6);
        Check.due("it sticks", x.evenings(0, 5, 1), 0);
        drawn(x, 0, -1, 7, 6, 8, 9);
    }

    private static void drawsGoRound() {
        Edge.says(28, "a DRAW of m: s becomes (s times 1103 and 12345) modulo 1,000,003, it is s modulo m.");
        Counted x = Counted.with(1, 2, 3, 4, 5, 6, 7, 8, 9, 10, 11, 12, 13);
        long s = 1000000;
        int[] cards = {1, 2, 3, 4, 5, 6, 7, 8, 9, 10, 11, 12, 13};
        for (int place = 12; place >= 1; place--) {
            s = (s * 1103 + 12345) % 1000003;
            int other = (int) (s % (place + 1));
            int card = cards[place];
            cards[place] = cards[other];
            cards[other] = card;
        }
        x.evenings(0, 1000000, 1);
        for (int place = 0; place < 13; place++) {
            Check.due("place " + place, x.drawn(2 + place), cards[place]);
        }
    }

    private static void oneCardIsNotShuffled() {
        Edge.says(28, "are shuffled: from the lowest place up to the second one");
        Counted x = Counted.with(1);
        Check.due("an ace", x.evenings(0, 5, 60), 60);
        drawn(x, 0, 0, 1);
        x.heap(2);
        Check.due("a two", x.evenings(1, 5, 60), 0);
        drawn(x, 0, -1, 2);
        // Two cards: one draw an evening. From 0 it is 12345 % 2 = 1, then 628841 % 2 = 1: they stay.
        x.heap(2, 1);
        Check.due("two cards", x.evenings(2, 0, 1), 1);
        drawn(x, 1, 1, 2, 1);
        Check.due("two evenings", x.evenings(2, 0, 2), 2);
        drawn(x, 1, 1, 1, 2);
        // From 1 it is 13448 % 2 = 0: they change.
        Check.due("another seed", x.evenings(2, 1, 1), 1);
        drawn(x, 0, 0, 1, 2);
    }

    private static void fromTheEndOfTheEveningBefore() {
        Edge.says(28, "Each evening a HEAP's CARDS (as they lay at the end of the evening before, at first as now) are shuffled");
        Counted x = Counted.with(3, 1, 2);
        // 2 1 3 ends as 1 2 3, which is shuffled to 1 3 2, that to 3 2 1, which ends as 1 2 3.
        Check.due("two", x.evenings(0, 0, 2), 2);
        drawn(x, 1, 1, 1, 3, 2);
        Check.due("three", x.evenings(0, 0, 3), 3);
        drawn(x, 2, 1, 3, 2, 1);
        Check.due("from the beginning again", x.evenings(0, 0, 1), 1);
        drawn(x, 1, 1, 2, 1, 3);
        x.step(0);
        x.lies(0, 2, 1, 3);
        // As now: the draws 0 and 1 make 3 1 2 of 2 1 3, which ends behind two steps.
        Check.due("as now", x.evenings(0, 0, 1), 1);
        drawn(x, 2, 2, 3, 1, 2);
    }

    private static void lastIsNothing() {
        Edge.says(28, "then it goes on (LAST 0).");
        Counted x = Counted.with(2, 0, 1);
        // The second evening begins with 0 1 2: from last 0 the joker turns none for ever.
        Check.due("two evenings", x.evenings(0, 8, 2), 1);
        drawn(x, 1, 1, 0, 1, 2);
        x.step(0);
        x.lies(0, 0, 2, 1);
        Check.due("last of the heap", x.of(0, 2), 2);
        Check.due("the first evening", x.evenings(0, 8, 1), 0);
        drawn(x, 0, -1, 0, 1, 2);
        x.law("ends if last=0");
        x.force(0);
        Check.due("last is just 0 at each beginning", x.evenings(0, 8, 60), 60);
        Check.due("all end at once", x.drawn(0), 0);
    }

    private static void endsAtLong() {
        Edge.says(28, "LONG STEPS are looked at, at most.");
        Counted x = Counted.with(3, 1, 2);
        x.terms(1, 2);
        Check.due("2 3 1 ends behind two", x.evenings(0, 999999, 1), 1);
        drawn(x, 2, 2, 2, 3, 1);
        x.terms(1, 1);
        Check.due("one is looked at", x.evenings(0, 999999, 1), 0);
        drawn(x, 0, -1, 2, 3, 1);
        Counted y = Counted.under("turns 0;sinks 1;ends if 1=2", 2, 1, 3);
        y.terms(1, 1);
        // 2 1 3 is shuffled to 3 1 2; one step of it is 1 2 3, of which the draws 621889 and 953857 make 1 3 2.
        Check.due("from where the first was left", y.evenings(0, 0, 2), 0);
        drawn(y, 0, -1, 1, 3, 2);
    }

    private static void onPaper() {
        Edge.says(28, "EVENINGS with a SEED, n 1 .. 60, on paper");
        Counted x = Scene.rich();
        int[] before = {x.of(1, 1), x.of(1, 2), x.of(1, 7), x.of(1, 8), x.of(1, 9), x.count(3)};
        x.evenings(1, 77, 60);
        int[] behind = {x.of(1, 1), x.of(1, 2), x.of(1, 7), x.of(1, 8), x.of(1, 9), x.count(3)};
        for (int i = 0; i < before.length; i++) {
            Check.due("what stands, " + i, behind[i], before[i]);
        }
    }

    private static void numbersThatCannotBe() {
        Edge.says(28, "EVENINGS of a HEAP, kept as the latest: how many ENDED. -1; -2 (ahead of -1).");
        for (int seed : new int[] {-1, LEAST, 1000001, 1000003, GREATEST}) {
            Untouched.by(Scene::rich, "evenings(0, " + seed + ", 1)", x -> x.evenings(0, seed, 1)).refused(-1);
        }
        for (int n : new int[] {0, -1, LEAST, 61, GREATEST}) {
            Untouched.by(Scene::rich, "evenings(0, 0, " + n + ")", x -> x.evenings(0, 0, n)).refused(-1);
        }
        Untouched.by(Scene::rich, "evenings(0, -1, 0)", x -> x.evenings(0, -1, 0)).refused(-1);
    }

    private static void withoutSuchAHeap() {
        Edge.says(28, "-1; -2 (ahead of -1).");
        for (int heap : new int[] {-1, LEAST, 3, 5, 6, GREATEST}) {
            Untouched.by(Scene::rich, "evenings(" + heap + ", 0, 1)", x -> x.evenings(heap, 0, 1)).refused(-2);
            Untouched.by(Scene::rich, "evenings(" + heap + ", -1, 61)", x -> x.evenings(heap, -1, 61)).refused(-2);
        }
        Untouched.by(Scene::nothing, "evenings(0, 0, 1) without heaps", x -> x.evenings(0, 0, 1)).refused(-2);
    }

    private static void noneHeld() {
        Edge.says(29, "Of the latest EVENINGS STEPS together of those that ENDED (what 0)");
        Counted x = Counted.with(3, 1, 2);
        for (int what = 0; what < 8; what++) {
            Check.due("drawn(" + what + ") ahead of any", x.drawn(what), -1);
        }
        x.evenings(0, -1, 1);
        x.evenings(9, 0, 1);
        for (int what = 0; what < 8; what++) {
            Check.due("drawn(" + what + ") behind refused ones", x.drawn(what), -1);
        }
    }

    private static void noneEnded() {
        Edge.says(29, "the most (1; NONE: none ENDED)");
        Counted x = Counted.with(5);
        Check.due("none", x.evenings(0, 0, 60), 0);
        drawn(x, 0, -1, 5);
        x.heap(1);
        Check.due("one, at once", x.evenings(1, 0, 1), 1);
        drawn(x, 0, 0, 1);
        Check.due("none again", x.evenings(0, 0, 1), 0);
        drawn(x, 0, -1, 5);
    }

    private static void placesOfTheBeginning() {
        Edge.says(29, "the CARD at a place at the last evening's beginning (2 and more).");
        Counted x = Counted.with(13, 13, 13, 13, 13, 13, 13, 13, 13, 13, 13, 13, 0);
        x.evenings(0, 3, 2);
        int jokers = 0;
        for (int place = 0; place < 13; place++) {
            int card = x.drawn(2 + place);
            Check.holds("a card at " + place, card == 0 || card == 13);
            jokers += card == 0 ? 1 : 0;
        }
        Check.due("one joker", jokers, 1);
        Check.due("place 13", x.drawn(15), -1);
        x.heap(4);
        x.evenings(1, 3, 1);
        Check.due("of a heap with fewer", x.drawn(2), 4);
        Check.due("no second place", x.drawn(3), -1);
    }

    private static void drawnWithout() {
        Edge.says(29, "at the last evening's beginning (2 and more). NONE.");
        for (int what : new int[] {-1, LEAST, LEAST + 1, 5, 15, GREATEST}) {
            Untouched.by(Scene::rich, "drawn(" + what + ")", x -> x.drawn(what)).answers(-1);
        }
    }

    private static void theLatestStay() {
        Edge.says(29, "Of the latest EVENINGS STEPS together of those that ENDED (what 0)");
        Counted x = Counted.with(3, 1, 2);
        x.image(0);
        x.evenings(0, 0, 1);
        x.swap(0, 0, 1);
        x.heap(9);
        x.law("ends");
        x.force(0);
        x.terms(1, 1);
        x.evenings(0, 0, 61);
        x.back(0);
        drawn(x, 1, 1, 2, 1, 3);
    }
}
