/** The edges of promises 16 to 22 and 25 to 27: what is asked on paper, heaps, orders and rows that go on. */
public final class EdgesOfPaperTest {
    private static final int LEAST = Integer.MIN_VALUE;
    private static final int GREATEST = Integer.MAX_VALUE;
    private static final int[] NO_HEAPS = {-1, LEAST, 3, 5, 6, GREATEST};
    /** By this law seven cards go on for long: up to 522 steps, 36 of their orders come round. */
    private static final String LONG_LAW = "turns [top+last]%many+1;ends if top=1 and second=2";

    public static void main(String[] args) {
        onPaper();
        goesFromAsItIs();
        goesAtOnce();
        goesEndsAheadOfRound();
        goesTillLong();
        goesTillTheLongestLong();
        goesTillLongAtFirst();
        goesSticksAtLong();
        goesRoundAtLong();
        goesRoundByCardsAndLast();
        goesFirstTime();
        goesWithout();
        afterNone();
        afterTheMost();
        afterAsFarAsThereAreAny();
        afterWithout();
        longestOfOneToSeven();
        longestFirst();
        longestAtLong();
        longestWithout();
        longestIfNoneEnds();
        orderlyOfOneToSeven();
        orderlyAtLong();
        orderlyRising();
        orderlyWithout();
        toSevenAtMost();
        toPlaces();
        toNone();
        toWithout();
        cheatUnlikeCards();
        cheatFirstPlaces();
        cheatAtLong();
        cheatFromLastAsItIs();
        cheatWithout();
        oddsOfNoneOrAllSeen();
        oddsAlikeOnes();
        oddsLowestTerms();
        oddsOfSteps();
        oddsFromNoLast();
        oddsWithout();
        fitsWithoutSights();
        fitsAtTheFirstAndTheLastStep();
        fitsOnlyIfAllStepsCanBe();
        fitsUnlikeRows();
        fitsPlaces();
        fitsWithout();
        raceEnds();
        raceOfJokers();
        raceAtLong();
        raceWithout();
        sortedAtOnce();
        sortedFirst();
        sortedSevenAtMost();
        sortedWithout();
        Check.finish("EdgesOfPaperTest");
    }

    private static void goes(Counted x, int heap, int how, int behind, int first) {
        Check.due("how heap " + heap + " goes", x.goes(heap, 0), how);
        Check.due("behind how many", x.goes(heap, 1), behind);
        Check.due("so first", x.goes(heap, 2), first);
    }

    private static void onPaper() {
        Edge.says(16, "(On paper:) a HEAP GOES ON from as it is by STEPS till it has ENDED, STICKS, or is as it was at an earlier time");
        for (int heap = 0; heap < 3; heap++) {
            int h = heap;
            Untouched.by(Scene::rich, "goes(" + h + ", 0)", x -> x.goes(h, 0)).leavesAll();
            Untouched.by(Scene::rich, "after(" + h + ", 7, 0)", x -> x.after(h, 7, 0)).leavesAll();
            Untouched.by(Scene::rich, "to(" + h + ", -1, 0)", x -> x.to(h, -1, 0)).leavesAll();
            Untouched.by(Scene::rich, "cheat(" + h + ", 0)", x -> x.cheat(h, 0)).leavesAll();
            Untouched.by(Scene::rich, "odds(" + h + ", 1, 2, 0)", x -> x.odds(h, 1, 2, 0)).leavesAll();
            Untouched.by(Scene::rich, "fits(" + h + ", -1, 0)", x -> x.fits(h, -1, 0)).leavesAll();
            Untouched.by(Scene::rich, "race(" + h + ", 1)", x -> x.race(h, 1)).leavesAll();
            Untouched.by(Scene::rich, "sorted(" + h + ", 0)", x -> x.sorted(h, 0)).leavesAll();
        }
        Untouched.by(Scene::rich, "longest(7, 0)", x -> x.longest(7, 0)).leavesAll();
        Untouched.by(Scene::rich, "orderly(7, 0)", x -> x.orderly(7, 0)).leavesAll();
    }

    private static void goesFromAsItIs() {
        Edge.says(16, "A HEAP GOES ON: 0 it ENDS, 1 STICKS, 2 comes ROUND, 3 none of these in LONG STEPS (what 0); behind how many STEPS (1;");
        // 3 1 2, 2 1 3, 1 2 3; cut in between it is 1 3 2.
        Counted x = Counted.with(3, 1, 2);
        goes(x, 0, 0, 2, -1);
        x.step(0);
        goes(x, 0, 0, 1, -1);
        x.cut(0, 1);
        goes(x, 0, 0, 0, -1);
        x.undo();
        x.swap(0, 0, 2);
        goes(x, 0, 0, 2, -1);
        // Its last is as it is, too: a joker on top turns two of 0 2 1, none of them if it had made no step.
        Counted y = Counted.with(2, 0, 1);
        y.step(0);
        y.heap(0, 2, 1);
        goes(y, 0, 2, 2, 0);
        goes(y, 1, 2, 1, 0);
    }

    private static void goesEndsAheadOfRound() {
        Edge.says(16, "it has ENDED, STICKS are looked for ahead of ROUND)");
        // The cards are as they were, but what was turned last ends it, or makes it stick.
        goes(Counted.under("turns 1;ends if last=1", 5, 6), 0, 0, 1, -1);
        goes(Counted.under("turns 1;turns 9 if last=1;ends if 1=2", 5, 6), 0, 1, 1, -1);
        goes(Counted.under("turns 1;ends if 1=2", 5, 6), 0, 2, 2, 1);
    }

    private static void goesAtOnce() {
        Edge.says(16, "0 it ENDS, 1 STICKS, 2 comes ROUND, 3 none of these in LONG STEPS (what 0)");
        Counted x = Counted.with(1, 2);
        goes(x, 0, 0, 0, -1);
        x.heap(3, 1);
        goes(x, 1, 1, 0, -1);
        x.heap(0, 1);
        goes(x, 2, 2, 1, 0);
        x.heap(1);
        goes(x, 3, 0, 0, -1);
        x.heap(2);
        goes(x, 4, 1, 0, -1);
        x.heap(0);
        goes(x, 5, 2, 1, 0);
        x.terms(1, 1);
        goes(x, 0, 0, 0, -1);
        goes(x, 1, 1, 0, -1);
        goes(x, 2, 2, 1, 0);
    }

    private static void goesTillLong() {
        Edge.says(16, "behind how many STEPS (1; LONG for 3;");
        Counted x = Counted.with(3, 1, 2);
        for (int most : new int[] {300, 200, 3, 2}) {
            x.terms(1, most);
            goes(x, 0, 0, 2, -1);
        }
        x.terms(1, 1);
        goes(x, 0, 3, 1, -1);
        x.step(0);
        goes(x, 0, 0, 1, -1);
    }

    private static void goesTillTheLongestLong() {
        Edge.says(16, "1 LONG 1 .. 300 (200): how many STEPS are looked ahead at most.");
        Counted x = Counted.under(LONG_LAW, 3, 5, 4, 1, 6, 2, 7);
        x.terms(1, 300);
        goes(x, 0, 3, 300, -1);
        x.step(0);
        goes(x, 0, 3, 300, -1);
        x.step(0);
        goes(x, 0, 0, 300, -1);
        x.terms(1, 299);
        goes(x, 0, 3, 299, -1);
        x.step(0);
        goes(x, 0, 0, 299, -1);
        Check.due("299 steps can be made", x.orders("step 0 times 20;".repeat(11) + "step 0 times 20"), 240);
        Check.due("299 steps can be made", x.orders("step 0 times 20;step 0 times 20;step 0 times 18"), 58);
        Check.due("not yet", x.of(0, 3), 0);
        Check.due("the last of them", x.step(0), 302);
        Check.due("then it has ended", x.of(0, 3), 1);
    }

    private static void goesTillLongAtFirst() {
        Edge.says(16, "1 LONG 1 .. 300 (200)");
        // 3 7 6 1 4 2 5 ends behind 200 steps, 3 1 7 6 5 4 2 behind 201.
        Counted x = Counted.under(LONG_LAW, 3, 7, 6, 1, 4, 2, 5);
        goes(x, 0, 0, 200, -1);
        Counted y = Counted.under(LONG_LAW, 3, 1, 7, 6, 5, 4, 2);
        goes(y, 0, 3, 200, -1);
        y.terms(1, 201);
        goes(y, 0, 0, 201, -1);
    }

    private static void goesSticksAtLong() {
        Edge.says(16, "1 STICKS, 2 comes ROUND, 3 none of these in LONG STEPS");
        // 2 3 9 becomes 3 2 9, that 9 2 3, which sticks.
        Counted x = Counted.with(2, 3, 9);
        goes(x, 0, 1, 2, -1);
        x.terms(1, 2);
        goes(x, 0, 1, 2, -1);
        x.terms(1, 1);
        goes(x, 0, 3, 1, -1);
        String law = "turns [top+last]%many+1;turns many+1 if top=1 and second=2;ends if 1=2";
        Counted y = Counted.under(law, 4, 6, 2, 3, 5, 1, 7);
        y.terms(1, 300);
        goes(y, 0, 1, 300, -1);
        y.terms(1, 299);
        goes(y, 0, 3, 299, -1);
    }

    private static void goesRoundAtLong() {
        Edge.says(16, "2 comes ROUND, 3 none of these in LONG STEPS");
        Counted x = Counted.with(2, 2);
        goes(x, 0, 2, 2, 1);
        x.terms(1, 2);
        goes(x, 0, 2, 2, 1);
        x.terms(1, 1);
        goes(x, 0, 3, 1, -1);
        // What is turned comes round every ten steps, the cards by them every thirty or twenty times.
        Counted y = Counted.under("turns [last+3]%10;sinks 8;ends if 1=2", 1, 2, 3, 4, 5, 6, 7, 8, 9, 10, 11, 12);
        goes(y, 0, 3, 200, -1);
        y.terms(1, 299);
        goes(y, 0, 3, 299, -1);
        y.terms(1, 300);
        goes(y, 0, 2, 300, 0);
        Counted z = Counted.under("turns [last+1]%10;sinks 2;ends if 1=2", 1, 2, 3, 4, 5, 6, 7, 8, 9, 10, 11, 12);
        goes(z, 0, 2, 200, 0);
        z.terms(1, 199);
        goes(z, 0, 3, 199, -1);
    }

    private static void goesRoundByCardsAndLast() {
        Edge.says(16, "or is as it was at an earlier time (CARDS and LAST: it comes ROUND)");
        // The cards of 2 2 are never others, but last is 0 first, then 2.
        goes(Counted.with(2, 2), 0, 2, 2, 1);
        Counted x = Counted.with(2, 2);
        x.step(0);
        goes(x, 0, 2, 1, 0);
        goes(Counted.with(13, 13, 13, 13, 13, 13, 13, 13, 13, 13, 13, 13, 13), 0, 2, 2, 1);
        // 5 8 1 0 5 (0), 5 0 1 8 5 (5), 5 8 1 0 5 (5), 5 0 1 8 5 (5).
        goes(Counted.with(5, 8, 1, 0, 5), 0, 2, 3, 1);
        // 4 2 3 0 (0), 0 3 2 4 (4), 4 2 3 0 (4), 0 3 2 4 (4).
        goes(Counted.with(4, 2, 3, 0), 0, 2, 3, 1);
        Counted y = Counted.under("turns 1 if last=0;turns 2 if last=1;turns 0 if last=2;ends if 1=2", 5, 6);
        // 5 6 (0), 5 6 (1), 6 5 (2), 6 5 (0), 6 5 (1), 5 6 (2), 5 6 (0).
        goes(y, 0, 2, 6, 0);
    }

    private static void goesFirstTime() {
        Edge.says(16, "of 2 behind how many it was so first (2; NONE for others)");
        Counted x = Counted.under(LONG_LAW, 1, 5, 2, 3, 7, 6, 4);
        goes(x, 0, 2, 21, 1);
        x.terms(1, 21);
        goes(x, 0, 2, 21, 1);
        x.terms(1, 20);
        goes(x, 0, 3, 20, -1);
        x.step(0);
        goes(x, 0, 2, 20, 0);
    }

    private static void goesWithout() {
        Edge.says(16, "(2; NONE for others). NONE.");
        for (int what : new int[] {-1, LEAST, 3, 7, GREATEST}) {
            Untouched.by(Scene::rich, "goes(0, " + what + ")", x -> x.goes(0, what)).answers(-1);
        }
        for (int heap : NO_HEAPS) {
            Untouched.by(Scene::rich, "goes(" + heap + ", 0)", x -> x.goes(heap, 0)).answers(-1);
        }
        Untouched.by(Scene::nothing, "goes(0, 0) without heaps", x -> x.goes(0, 0)).answers(-1);
    }

    private static void afterNone() {
        Edge.says(17, "The CARD at a place behind n STEPS 0 .. 300, as far as there are any.");
        Counted x = Counted.with(3, 1, 2);
        int[][] rows = {{3, 1, 2}, {2, 1, 3}, {1, 2, 3}};
        for (int n = 0; n < 3; n++) {
            for (int place = 0; place < 3; place++) {
                Check.due("behind " + n + " at " + place, x.after(0, n, place), rows[n][place]);
            }
        }
        x.step(0);
        Check.due("none, from as it is", x.after(0, 0, 0), 2);
        Check.due("one, from as it is", x.after(0, 1, 0), 1);
    }

    private static void afterTheMost() {
        Edge.says(17, "The CARD at a place behind n STEPS 0 .. 300, as far as there are any.");
        Counted x = Counted.under("turns 0;sinks 1;ends if 1=2", 1, 2, 3, 4, 5, 6, 7);
        // 300 are 42 rounds of seven and six more.
        for (int place = 0; place < 7; place++) {
            Check.due("behind 300 at " + place, x.after(0, 300, place), (6 + place) % 7 + 1);
            Check.due("behind 299 at " + place, x.after(0, 299, place), (5 + place) % 7 + 1);
        }
        Counted y = Counted.under(LONG_LAW, 4, 6, 2, 3, 5, 1, 7);
        int[] ended = {1, 2, 6, 5, 7, 4, 3};
        for (int place = 0; place < 7; place++) {
            Check.due("ended behind 300, at " + place, y.after(0, 300, place), ended[place]);
        }
        Check.holds("not yet behind 299", y.after(0, 299, 0) != 1 || y.after(0, 299, 1) != 2);
    }

    private static void afterAsFarAsThereAreAny() {
        Edge.says(17, "as far as there are any.");
        Counted x = Counted.with(3, 1, 2);
        for (int n : new int[] {2, 3, 299, 300}) {
            Check.due("it has ended, " + n, x.after(0, n, 2), 3);
            Check.due("it has ended, " + n, x.after(0, n, 1), 2);
        }
        x.heap(2, 3, 9);
        for (int n : new int[] {2, 3, 300}) {
            Check.due("it sticks, " + n, x.after(1, n, 0), 9);
            Check.due("it sticks, " + n, x.after(1, n, 2), 3);
        }
        x.heap(1, 5);
        Check.due("at once", x.after(2, 300, 0), 1);
    }

    private static void afterWithout() {
        Edge.says(17, "as far as there are any. NONE.");
        for (int n : new int[] {-1, LEAST, 301, GREATEST}) {
            Untouched.by(Scene::rich, "after(0, " + n + ", 0)", x -> x.after(0, n, 0)).answers(-1);
        }
        for (int place : new int[] {-1, LEAST, 3, 13, GREATEST}) {
            Untouched.by(Scene::rich, "after(0, 1, " + place + ")", x -> x.after(0, 1, place)).answers(-1);
        }
        for (int heap : NO_HEAPS) {
            Untouched.by(Scene::rich, "after(" + heap + ", 0, 0)", x -> x.after(heap, 0, 0)).answers(-1);
        }
    }

    private static void longestOfOneToSeven() {
        Edge.says(18, "The LONGEST of ORDERS of 1 .. 7: STEPS (what 0), how many last so long (1)");
        Counted x = new Counted();
        int[] steps = {0, 1, 2, 4, 7, 10, 16};
        int[] many = {1, 1, 2, 2, 1, 5, 2};
        for (int n = 1; n <= 7; n++) {
            Check.due("longest(" + n + ", 0)", x.longest(n, 0), steps[n - 1]);
            Check.due("longest(" + n + ", 1)", x.longest(n, 1), many[n - 1]);
        }
        for (int n : new int[] {0, -1, LEAST, 8, 13, GREATEST}) {
            Untouched.by(Scene::rich, "longest(" + n + ", 0)", y -> y.longest(n, 0)).answers(-1);
        }
    }

    private static void longestFirst() {
        Edge.says(18, "the CARD at a place of the first one (2 and more).");
        Counted x = new Counted();
        Check.due("of one card", x.longest(1, 2), 1);
        Check.due("behind it", x.longest(1, 3), -1);
        // 2 3 1 and 3 1 2 last two steps each.
        int[] three = {2, 3, 1, -1, -1};
        for (int i = 0; i < three.length; i++) {
            Check.due("of three, place " + i, x.longest(3, 2 + i), three[i]);
        }
        int[] seven = {3, 1, 4, 6, 7, 5, 2, -1};
        for (int i = 0; i < seven.length; i++) {
            Check.due("of seven, place " + i, x.longest(7, 2 + i), seven[i]);
        }
        x.law("ends");
        x.force(0);
        Check.due("all end at once", x.longest(7, 1), 5040);
        for (int i = 0; i < 7; i++) {
            Check.due("the first of all, place " + i, x.longest(7, 2 + i), i + 1);
        }
    }

    private static void longestAtLong() {
        Edge.says(18, "The LONGEST of ORDERS is that which ENDS behind the most STEPS; the first.");
        Counted x = new Counted();
        int[][] due = {{1, 1, 96, 3}, {199, 199, 6, 1}, {200, 200, 5, 3}, {201, 201, 5, 3}, {299, 295, 1, 7}, {300, 300, 1, 4}};
        x.law(LONG_LAW);
        x.force(0);
        Check.due("at first 200 are looked at", x.longest(7, 0), 200);
        for (int[] row : due) {
            x.terms(1, row[0]);
            Check.due("LONG " + row[0], x.longest(7, 0), row[1]);
            Check.due("how many, LONG " + row[0], x.longest(7, 1), row[2]);
            Check.due("the first's top, LONG " + row[0], x.longest(7, 2), row[3]);
        }
        Counted y = new Counted();
        y.terms(1, 16);
        Check.due("just as many", y.longest(7, 0), 16);
        y.terms(1, 15);
        Check.due("one less", y.longest(7, 0), 15);
    }

    private static void longestWithout() {
        Edge.says(18, "the CARD at a place of the first one (2 and more). NONE (none ENDS).");
        for (int what : new int[] {-1, LEAST, LEAST + 2, 9, 10, GREATEST}) {
            Untouched.by(Scene::rich, "longest(7, " + what + ")", x -> x.longest(7, what)).answers(-1);
        }
    }

    private static void longestIfNoneEnds() {
        Edge.says(18, "NONE (none ENDS).");
        Counted x = new Counted();
        x.law("ends if 1=2");
        x.law("turns 9;ends if 1=2");
        for (int law = 0; law < 2; law++) {
            x.force(law);
            for (int n = 1; n <= 7; n += 3) {
                for (int what = 0; what <= n + 2; what++) {
                    Check.due("longest(" + n + ", " + what + ")", x.longest(n, what), -1);
                }
            }
        }
        Check.due("not refused", x.status(), 0);
        x.force(-1);
        Check.due("they end again", x.longest(7, 0), 16);
    }

    private static void orderly(Counted x, int n, int ends, int sticks, int neither, int rising) {
        int[] due = {ends, sticks, neither, rising};
        for (int what = 0; what < 4; what++) {
            Check.due("orderly(" + n + ", " + what + ")", x.orderly(n, what), due[what]);
        }
    }

    private static void orderlyOfOneToSeven() {
        Edge.says(19, "Of ORDERS of 1 .. 7 how many END (what 0), STICK (1), neither in LONG STEPS (2)");
        Counted x = new Counted();
        int[] all = {1, 2, 6, 24, 120, 720, 5040};
        for (int n = 1; n <= 7; n++) {
            Check.due("all " + n + " end", x.orderly(n, 0), all[n - 1]);
            Check.due("none of " + n + " sticks", x.orderly(n, 1), 0);
            Check.due("none of " + n + " goes on", x.orderly(n, 2), 0);
        }
        x.law("turns many+1;ends if 1=2");
        x.force(0);
        for (int n = 1; n <= 7; n++) {
            orderly(x, n, 0, all[n - 1], 0, 0);
        }
        x.law("turns 0;ends if 1=2");
        x.force(1);
        for (int n = 1; n <= 7; n++) {
            orderly(x, n, 0, 0, all[n - 1], 0);
        }
    }

    private static void orderlyAtLong() {
        Edge.says(19, "neither in LONG STEPS (2)");
        Counted x = new Counted();
        x.terms(1, 16);
        orderly(x, 7, 5040, 0, 0, x.orderly(7, 3));
        x.terms(1, 15);
        Check.due("two last sixteen steps", x.orderly(7, 2), 2);
        Check.due("the others end", x.orderly(7, 0), 5038);
        // Of three: 1 2 3, 1 3 2 at once, 2 1 3 and 3 2 1 behind one step; 2 3 1 and 3 1 2 behind two.
        x.terms(1, 1);
        orderly(x, 3, 4, 0, 2, 3);
        x.terms(1, 2);
        orderly(x, 3, 6, 0, 0, 5);
        x.law(LONG_LAW);
        x.force(0);
        int[][] due = {{1, 216, 4824, 1}, {199, 4780, 260, 81}, {200, 4785, 255, 81}, {201, 4790, 250, 82}, {299, 4940, 100, 90},
            {300, 4941, 99, 90}};
        for (int[] row : due) {
            x.terms(1, row[0]);
            orderly(x, 7, row[1], 0, row[2], row[3]);
        }
        // By this they stick where they would end.
        x.law("turns many+1 if top=1;ends if 1=2");
        x.force(1);
        x.terms(1, 1);
        orderly(x, 2, 0, 2, 0, 0);
        orderly(x, 3, 0, 4, 2, 0);
        x.terms(1, 2);
        orderly(x, 3, 0, 6, 0, 0);
    }

    private static void orderlyRising() {
        Edge.says(19, "END with all rising (3).");
        Counted x = new Counted();
        orderly(x, 1, 1, 0, 0, 1);
        orderly(x, 2, 2, 0, 0, 2);
        // 1 3 2 alone does not end rising.
        orderly(x, 3, 6, 0, 0, 5);
        x.law("ends");
        x.force(0);
        orderly(x, 7, 5040, 0, 0, 1);
    }

    private static void orderlyWithout() {
        Edge.says(19, "END with all rising (3). NONE.");
        for (int n : new int[] {0, -1, LEAST, 8, GREATEST}) {
            Untouched.by(Scene::rich, "orderly(" + n + ", 0)", x -> x.orderly(n, 0)).answers(-1);
        }
        for (int what : new int[] {-1, LEAST, 4, GREATEST}) {
            Untouched.by(Scene::rich, "orderly(3, " + what + ")", x -> x.orderly(3, what)).answers(-1);
        }
    }

    private static void toSevenAtMost() {
        Edge.says(20, "NONE (above 7 CARDS).");
        Counted x = Counted.with(1, 2, 3, 4, 5, 6, 7);
        Check.due("seven cards", x.to(0, -1, 0), 6);
        Check.due("the last card of the last", x.to(0, 5, 6), 1);
        x.heap(1, 2, 3, 4, 5, 6, 7, 8);
        Check.due("eight cards", x.to(1, -1, 0), -1);
        Check.due("eight cards", x.to(1, 0, 0), -1);
        x.heap(1, 2, 3, 4, 5, 6, 7, 8, 9, 10, 11, 12, 13);
        Check.due("thirteen cards", x.to(2, -1, 0), -1);
        x.heap(0);
        Check.due("one card: a joker leads to itself", x.to(3, -1, 0), 1);
        Check.due("its card", x.to(3, 0, 0), 0);
        x.heap(1);
        Check.due("one card: no step from an ace", x.to(4, -1, 0), 0);
    }

    private static void toPlaces() {
        Edge.says(20, "What leads TO a HEAP: how many ROWS (i NONE), of the i-th the CARD at a place.");
        Counted x = Counted.with(1, 2, 3);
        Check.due("how many", x.to(0, -1, 0), 2);
        Check.due("the place does not matter", x.to(0, -1, LEAST), 2);
        int[][] rows = {{2, 1, 3}, {3, 2, 1}};
        for (int i = 0; i < 2; i++) {
            Check.due("ahead of the first place", x.to(0, i, -1), -1);
            for (int place = 0; place < 3; place++) {
                Check.due("row " + i + ", place " + place, x.to(0, i, place), rows[i][place]);
            }
            Check.due("behind the last place", x.to(0, i, 3), -1);
        }
        Check.due("no third row", x.to(0, 2, 0), -1);
    }

    private static void toNone() {
        Edge.says(20, "ROWS of it by one STEP of which its CARDS lie as now.");
        Counted x = Counted.with(3, 1, 2);
        Check.due("none", x.to(0, -1, 0), 0);
        Check.due("no first row", x.to(0, 0, 0), -1);
        x.law("ends");
        x.law("turns 0-1;ends if 1=2");
        x.law("turns 0;ends if 1=2");
        x.force(0);
        Check.due("all have ended", x.to(0, -1, 0), 0);
        x.force(1);
        Check.due("all stick", x.to(0, -1, 0), 0);
        x.force(2);
        Check.due("itself alone", x.to(0, -1, 0), 1);
        Check.due("its top", x.to(0, 0, 0), 3);
    }

    private static void toWithout() {
        Edge.says(20, "of the i-th the CARD at a place. NONE");
        for (int i : new int[] {-2, LEAST, 9, GREATEST}) {
            Untouched.by(Scene::rich, "to(0, " + i + ", 0)", x -> x.to(0, i, 0)).answers(-1);
        }
        for (int heap : NO_HEAPS) {
            Untouched.by(Scene::rich, "to(" + heap + ", -1, 0)", x -> x.to(heap, -1, 0)).answers(-1);
        }
    }

    private static void cheat(Counted x, int heap, int steps, int one, int other) {
        Check.due("cheat(" + heap + ", 0)", x.cheat(heap, 0), steps);
        Check.due("cheat(" + heap + ", 1)", x.cheat(heap, 1), one);
        Check.due("cheat(" + heap + ", 2)", x.cheat(heap, 2), other);
    }

    private static void cheatUnlikeCards() {
        Edge.says(21, "A CHEAT: two places, unlike CARDS, by which swapped it ENDS behind the most STEPS");
        Counted x = Counted.with(1);
        cheat(x, 0, -1, -1, -1);
        x.heap(1, 1);
        cheat(x, 1, -1, -1, -1);
        x.heap(2, 1);
        cheat(x, 2, 0, 0, 1);
        // Alike ones swapped would leave 2 2 1, which never ends; 1 2 2 ends at once, 2 1 2 behind one step.
        x.heap(2, 2, 1);
        cheat(x, 3, 1, 1, 2);
        x.heap(1, 1, 1, 1, 1, 1, 1, 1, 1, 1, 1, 1, 2);
        // 2 1 .. 1 ends behind one step; any other way it ends at once.
        cheat(x, 4, 1, 0, 12);
    }

    private static void cheatFirstPlaces() {
        Edge.says(21, "(from LAST as it is); the first places.");
        // 2 1 3 and 3 2 1 both end behind one step.
        Counted x = Counted.with(1, 2, 3);
        cheat(x, 0, 1, 0, 1);
        // 1 3 2: 3 1 2 two steps, 2 3 1 two steps, 1 2 3 none.
        x.heap(1, 3, 2);
        cheat(x, 1, 2, 0, 1);
        x.law("ends");
        x.force(0);
        cheat(x, 1, 0, 0, 1);
    }

    private static void cheatAtLong() {
        Edge.says(21, "by which swapped it ENDS behind the most STEPS");
        Counted x = Counted.with(3, 2, 1);
        // 2 3 1 and 3 1 2 end behind two steps, 1 2 3 has ended.
        cheat(x, 0, 2, 0, 1);
        x.terms(1, 2);
        cheat(x, 0, 2, 0, 1);
        x.terms(1, 1);
        cheat(x, 0, 0, 0, 2);
    }

    private static void cheatFromLastAsItIs() {
        Edge.says(21, "(from LAST as it is)");
        Counted x = Counted.with(2, 0, 1);
        x.step(0);
        x.lies(0, 0, 2, 1);
        // From last 2 the joker of 0 1 2 turns two: 1 0 2. From last 0 it would turn none for ever.
        cheat(x, 0, 1, 1, 2);
        x.heap(0, 2, 1);
        // From last 0: 2 0 1 comes round, 1 2 0 has ended, 0 1 2 comes round.
        cheat(x, 1, 0, 0, 2);
    }

    private static void cheatWithout() {
        Edge.says(21, "A CHEAT: STEPS (what 0), the first (1), the second place (2). NONE (none ENDS).");
        Counted x = Counted.with(5, 6);
        cheat(x, 0, -1, -1, -1);
        x.heap(2, 1);
        x.law("ends if 1=2");
        x.force(0);
        cheat(x, 1, -1, -1, -1);
        for (int what : new int[] {-1, LEAST, 3, GREATEST}) {
            Untouched.by(Scene::rich, "cheat(0, " + what + ")", y -> y.cheat(0, what)).answers(-1);
        }
        for (int heap : NO_HEAPS) {
            Untouched.by(Scene::rich, "cheat(" + heap + ", 0)", y -> y.cheat(heap, 0)).answers(-1);
        }
    }

    private static void odds(Counted x, int seen, int c, int upper, int lower) {
        Check.due("odds(0, " + seen + ", " + c + ", 0)", x.odds(0, seen, c, 0), upper);
        Check.due("odds(0, " + seen + ", " + c + ", 1)", x.odds(0, seen, c, 1), lower);
    }

    private static void oddsOfNoneOrAllSeen() {
        Edge.says(22, "ODDS: its upper CARDS are seen, 0 .. 7 of them");
        Counted x = Counted.with(3, 1, 2);
        odds(x, 0, 0, 1, 3);
        odds(x, 0, 2, 1, 3);
        odds(x, 1, 2, 1, 2);
        odds(x, 2, 2, 1, 1);
        odds(x, 3, 2, 1, 1);
        odds(x, 3, 1, 0, 1);
        Counted y = Counted.with(3, 1, 4, 6, 7, 5, 2);
        odds(y, 7, 16, 1, 1);
        odds(y, 6, 16, 1, 1);
        odds(y, 0, 16, 1, 2520);
        Counted z = Counted.with(1);
        odds(z, 0, 0, 1, 1);
        odds(z, 1, 0, 1, 1);
        odds(z, 1, 1, 0, 1);
    }

    private static void oddsAlikeOnes() {
        Edge.says(22, "of all orders of the others (by places, alike ones, too; LAST 0)");
        Counted x = Counted.with(2, 2, 1);
        odds(x, 0, 0, 1, 3);
        odds(x, 0, 1, 1, 3);
        odds(x, 1, 1, 1, 2);
        Counted y = Counted.with(1, 1, 1, 1, 1, 1, 1);
        odds(y, 0, 0, 1, 1);
        // Three aces of seven on top: 3 of 7; with one two seen on top 1 of 2 has an ace behind it: 3 of 6.
        Counted z = Counted.with(2, 1, 1, 1, 2, 2, 2);
        odds(z, 0, 0, 3, 7);
        odds(z, 1, 1, 1, 2);
    }

    private static void oddsLowestTerms() {
        Edge.says(22, "in how many it ENDS behind just c STEPS: as a fraction in lowest terms.");
        Counted x = Counted.with(4, 3, 2, 1);
        // Six of 24 begin with the ace.
        odds(x, 0, 0, 1, 4);
        odds(x, 0, 9, 0, 1);
        Counted y = Counted.with(7, 6, 5, 4, 3, 2, 1);
        odds(y, 0, 0, 1, 7);
        odds(y, 0, 17, 0, 1);
        y.law("ends");
        y.force(0);
        odds(y, 0, 0, 1, 1);
        odds(y, 0, 1, 0, 1);
    }

    private static void oddsOfSteps() {
        Edge.says(22, "ODDS, so many upper CARDS being seen, for c STEPS 0 .. 300: the upper (what 0), the lower number (1).");
        Counted x = Counted.under(LONG_LAW, 4, 6, 2, 3, 5, 1, 7);
        x.terms(1, 300);
        odds(x, 7, 300, 1, 1);
        odds(x, 7, 299, 0, 1);
        odds(x, 0, 300, 1, 5040);
        odds(x, 0, 200, 1, 1008);
        Check.due("301", x.odds(0, 7, 301, 0), -1);
        Check.due("301", x.odds(0, 7, 301, 1), -1);
        Check.due("-1", x.odds(0, 7, -1, 0), -1);
        x.terms(1, 299);
        odds(x, 7, 300, 0, 1);
        x.terms(1, 200);
        odds(x, 0, 200, 1, 1008);
        x.terms(1, 199);
        odds(x, 0, 200, 0, 1);
    }

    private static void oddsFromNoLast() {
        Edge.says(22, "(by places, alike ones, too; LAST 0)");
        Counted x = Counted.with(2, 0, 1);
        x.step(0);
        x.lies(0, 0, 2, 1);
        // From last 0 a joker on top turns none for ever, though the heap has last 2.
        odds(x, 1, 1, 0, 1);
        odds(x, 0, 1, 1, 6);
    }

    private static void oddsWithout() {
        Edge.says(22, "NONE (above 7 CARDS; fewer than are seen).");
        for (int seen : new int[] {-1, LEAST, 4, 7, 8, GREATEST}) {
            Untouched.by(Scene::rich, "odds(0, " + seen + ", 0, 0)", x -> x.odds(0, seen, 0, 0)).answers(-1);
        }
        for (int c : new int[] {-1, LEAST, 301, GREATEST}) {
            Untouched.by(Scene::rich, "odds(0, 0, " + c + ", 1)", x -> x.odds(0, 0, c, 1)).answers(-1);
        }
        for (int what : new int[] {-1, LEAST, 2, GREATEST}) {
            Untouched.by(Scene::rich, "odds(0, 0, 0, " + what + ")", x -> x.odds(0, 0, 0, what)).answers(-1);
        }
        for (int heap : NO_HEAPS) {
            Untouched.by(Scene::rich, "odds(" + heap + ", 0, 0, 0)", x -> x.odds(heap, 0, 0, 0)).answers(-1);
        }
        Counted y = Counted.with(1, 2, 3, 4, 5, 6, 7, 8);
        Check.due("eight cards", y.odds(0, 0, 0, 0), -1);
        Check.due("eight cards, seven seen", y.odds(0, 7, 0, 1), -1);
        Check.due("eight cards, eight seen", y.odds(0, 8, 0, 1), -1);
        Counted z = Counted.with(1, 2, 3, 4, 5, 6, 7);
        Check.due("seven cards, seven seen", z.odds(0, 7, 0, 0), 1);
        Check.due("seven cards, eight seen", z.odds(0, 8, 0, 0), -1);
    }

    private static void fitsWithoutSights() {
        Edge.says(25, "FITTING ROWS: how many (i NONE)");
        Counted x = Counted.with(3, 1, 2);
        Check.due("all", x.fits(0, -1, 0), 6);
        x.heap(7, 6, 5, 4, 3, 2, 1);
        Check.due("all", x.fits(1, -1, 0), 5040);
        x.heap(4);
        Check.due("the only one", x.fits(2, -1, 0), 1);
        x.sight(0, 9);
        Check.due("none", x.fits(0, -1, 0), 0);
        Check.due("no first one", x.fits(0, 0, 0), -1);
        x.forget();
        Check.due("all again", x.fits(0, -1, 0), 6);
    }

    private static void fitsAtTheFirstAndTheLastStep() {
        Edge.says(25, "FITTING: ROWS by which behind k STEPS (all of which can be) each SIGHT's TOP was so.");
        Counted x = Counted.with(3, 1, 2);
        x.sight(0, 3);
        Check.due("behind none", x.fits(0, -1, 0), 2);
        x.forget();
        x.sight(0, 0);
        Check.due("no joker", x.fits(0, -1, 0), 0);
        Counted y = Counted.under("turns 0;sinks 1;ends if 1=2", 1, 2, 3, 4, 5, 6, 7);
        // 99 are fourteen rounds of seven and one more: the second card is on top then.
        y.sight(99, 7);
        Check.due("behind 99", y.fits(0, -1, 0), 720);
        Check.due("the first's second card", y.fits(0, 0, 1), 7);
        y.sight(98, 6);
        Check.due("behind 98, too", y.fits(0, -1, 0), 120);
        y.sight(0, 6);
        Check.due("behind none, too", y.fits(0, -1, 0), 120);
        y.sight(0, 5);
        Check.due("two unlike ones", y.fits(0, -1, 0), 0);
    }

    private static void fitsOnlyIfAllStepsCanBe() {
        Edge.says(25, "behind k STEPS (all of which can be)");
        Counted x = Counted.with(3, 1, 2);
        x.sight(1, 1);
        // 2 1 3 and 3 2 1; the ace of 1 2 3 is not stepped on.
        Check.due("one step", x.fits(0, -1, 0), 2);
        x.forget();
        x.sight(2, 1);
        Check.due("two steps", x.fits(0, -1, 0), 2);
        x.forget();
        x.sight(3, 1);
        Check.due("three steps", x.fits(0, -1, 0), 0);
        Counted y = Counted.with(3, 9);
        y.sight(0, 9);
        Check.due("what sticks at once", y.fits(0, -1, 0), 1);
        y.sight(1, 9);
        Check.due("makes no step", y.fits(0, -1, 0), 0);
    }

    private static void fitsUnlikeRows() {
        Edge.says(25, "ROWS of a HEAP (7 CARDS at most): all unlike rows of its CARDS, the first ones by their first CARDS, and so on");
        Counted x = Counted.with(2, 0, 2);
        int[][] rows = {{0, 2, 2}, {2, 0, 2}, {2, 2, 0}};
        Check.due("how many", x.fits(0, -1, 0), 3);
        for (int i = 0; i < 3; i++) {
            for (int place = 0; place < 3; place++) {
                Check.due("row " + i + ", place " + place, x.fits(0, i, place), rows[i][place]);
            }
        }
        Check.due("no fourth", x.fits(0, 3, 0), -1);
        x.heap(5, 5, 5, 5, 5, 5, 5);
        Check.due("all alike", x.fits(1, -1, 0), 1);
        Check.due("its lowest card", x.fits(1, 0, 6), 5);
        Check.due("no second", x.fits(1, 1, 0), -1);
        x.heap(13, 0, 13, 0);
        Check.due("the first's top", x.fits(2, 0, 0), 0);
        Check.due("the last's top", x.fits(2, 5, 0), 13);
        Check.due("how many", x.fits(2, -1, 0), 6);
    }

    private static void fitsPlaces() {
        Edge.says(25, "FITTING ROWS: how many (i NONE), of the i-th the CARD at a place.");
        Counted x = Counted.with(7, 6, 5, 4, 3, 2, 1);
        for (int place = 0; place < 7; place++) {
            Check.due("the first, place " + place, x.fits(0, 0, place), place + 1);
            Check.due("the last, place " + place, x.fits(0, 5039, place), 7 - place);
        }
        Check.due("behind the last row", x.fits(0, 5040, 0), -1);
        Check.due("behind the last place", x.fits(0, 0, 7), -1);
        Check.due("ahead of the first place", x.fits(0, 0, -1), -1);
        Check.due("the place does not matter", x.fits(0, -1, GREATEST), 5040);
    }

    private static void fitsWithout() {
        Edge.says(25, "NONE (above 7 CARDS).");
        for (int i : new int[] {-2, LEAST, 99, GREATEST}) {
            Untouched.by(Scene::rich, "fits(0, " + i + ", 0)", x -> x.fits(0, i, 0)).answers(-1);
        }
        for (int heap : NO_HEAPS) {
            Untouched.by(Scene::rich, "fits(" + heap + ", -1, 0)", x -> x.fits(heap, -1, 0)).answers(-1);
        }
        Counted y = Counted.with(1, 2, 3, 4, 5, 6, 7, 8);
        Check.due("eight cards", y.fits(0, -1, 0), -1);
        Check.due("eight cards", y.fits(0, 0, 0), -1);
    }

    private static void raceEnds() {
        Edge.says(26, "Which of two HEAPS ENDS behind fewer STEPS: 0 the first, 1 the second, 2 both behind as many; one that does not "
                + "END is the later one.");
        Counted x = Counted.with(3, 1, 2);
        x.heap(2, 1);
        x.heap(1, 2);
        x.heap(2, 3, 1);
        x.heap(5, 1);
        x.heap(2, 2);
        int[][] due = {{0, 1, 1}, {1, 0, 0}, {1, 2, 1}, {2, 1, 0}, {0, 3, 2}, {3, 0, 2}, {0, 0, 2}, {2, 2, 2},
            {0, 4, 0}, {4, 0, 1}, {0, 5, 0}, {5, 0, 1}, {4, 5, -1}, {5, 4, -1}, {4, 4, -1}, {5, 5, -1}, {2, 4, 0}, {4, 2, 1}};
        for (int[] row : due) {
            Check.due("race(" + row[0] + ", " + row[1] + ")", x.race(row[0], row[1]), row[2]);
        }
    }

    private static void raceOfJokers() {
        Edge.says(26, "Which of two HEAPS ENDS behind fewer STEPS");
        Counted x = Counted.under("turns 1 if last<2;turns 2 if last=1;ends if last=2;ends if many=1 and last=1", 0, 0);
        x.heap(0);
        Check.due("two steps and one", x.race(0, 1), 1);
        Check.due("one step and two", x.race(1, 0), 0);
        Check.due("two steps each", x.race(0, 0), 2);
        x.force(-1);
        Check.due("for ever", x.race(0, 1), -1);
    }

    private static void raceAtLong() {
        Edge.says(26, "one that does not END is the later one. NONE (neither ENDS).");
        Counted x = Counted.with(3, 1, 2);
        x.heap(2, 1);
        x.heap(2, 3, 1);
        x.terms(1, 2);
        Check.due("both in two", x.race(0, 2), 2);
        x.terms(1, 1);
        Check.due("neither in one", x.race(0, 2), -1);
        Check.due("the second in one", x.race(0, 1), 1);
        Check.due("the first in one", x.race(1, 0), 0);
        Counted y = Counted.under(LONG_LAW, 3, 7, 6, 1, 4, 2, 5);
        y.heap(3, 1, 7, 6, 5, 4, 2);
        Check.due("200 and 201 steps, 200 being looked at", y.race(1, 0), 1);
        y.terms(1, 201);
        Check.due("201 being looked at", y.race(1, 0), 1);
        Check.due("both end", y.race(1, 1), 2);
        y.terms(1, 200);
        Check.due("neither ends", y.race(1, 1), -1);
    }

    private static void raceWithout() {
        Edge.says(26, "NONE (neither ENDS).");
        for (int heap : NO_HEAPS) {
            Untouched.by(Scene::rich, "race(0, " + heap + ")", x -> x.race(0, heap)).answers(-1);
            Untouched.by(Scene::rich, "race(" + heap + ", 0)", x -> x.race(heap, 0)).answers(-1);
            Untouched.by(Scene::rich, "race(" + heap + " twice)", x -> x.race(heap, heap)).answers(-1);
        }
    }

    private static void blocks(Counted x, int heap, int... blocks) {
        Check.due("how many blocks", x.sorted(heap, 0), blocks.length);
        for (int i = 0; i < blocks.length; i++) {
            Check.due("block " + i, x.sorted(heap, 1 + i), blocks[i]);
        }
        Check.due("behind the last block", x.sorted(heap, 1 + blocks.length), -1);
    }

    private static void sortedAtOnce() {
        Edge.says(27, "so that the CARDS rise from the TOP on (alike ones beside each other)");
        Counted x = Counted.with(4);
        blocks(x, 0);
        x.heap(0, 0, 1, 1, 13, 13);
        blocks(x, 1);
        x.heap(2, 2, 2, 2, 2, 2, 2);
        blocks(x, 2);
        x.heap(1, 0);
        blocks(x, 3, 2);
        x.heap(13, 13, 0, 0, 0, 0, 0);
        blocks(x, 4, 7);
        x.heap(2, 1, 2);
        blocks(x, 5, 2);
    }

    private static void sortedFirst() {
        Edge.says(27, "PUT IN ORDER: the fewest blocks of 2 or more upper CARDS turned over so that the CARDS rise from the TOP on "
                + "(alike ones beside each other); the first as a row of how many.");
        // Each has the other ways told, as short ones, behind the first.
        Counted x = Counted.with(1, 3, 2);
        blocks(x, 0, 2, 3, 2);                // and 3 2 3
        x.heap(2, 4, 1, 3);
        blocks(x, 1, 2, 4, 3, 2);             // and 3 2 4 3
        x.heap(3, 1, 4, 2);
        blocks(x, 2, 2, 3, 4, 2);             // and 3 4 2 3
        x.heap(4, 2, 3, 1);
        blocks(x, 3, 2, 3, 2, 4);             // and 3 2 3 4, 4 2 3 2, 4 3 2 3
        x.heap(3, 1, 2);
        blocks(x, 4, 3, 2);
    }

    private static void sortedSevenAtMost() {
        Edge.says(27, "how many CARDS the i-th has (1 + i). NONE (above 7 CARDS).");
        Counted x = Counted.with(7, 6, 5, 4, 3, 2, 1);
        blocks(x, 0, 7);
        x.heap(8, 7, 6, 5, 4, 3, 2, 1);
        Check.due("eight cards", x.sorted(1, 0), -1);
        Check.due("eight cards", x.sorted(1, 1), -1);
        x.heap(1, 2, 3, 4, 5, 6, 7, 8, 9, 10, 11, 12, 13);
        Check.due("thirteen cards", x.sorted(2, 0), -1);
        // No row of seven cards needs more than eight blocks; these do.
        x.heap(6, 2, 4, 1, 7, 3, 5);
        blocks(x, 3, 2, 3, 5, 7, 3, 2, 4, 6);
        x.heap(5, 7, 3, 1, 6, 2, 4);
        blocks(x, 4, 2, 4, 5, 2, 7, 4, 3, 2);
    }

    private static void sortedWithout() {
        Edge.says(27, "PUT IN ORDER: how many blocks (what 0), how many CARDS the i-th has (1 + i). NONE");
        for (int what : new int[] {-1, LEAST, 9, GREATEST}) {
            Untouched.by(Scene::rich, "sorted(0, " + what + ")", x -> x.sorted(0, what)).answers(-1);
        }
        for (int heap : NO_HEAPS) {
            Untouched.by(Scene::rich, "sorted(" + heap + ", 0)", x -> x.sorted(heap, 0)).answers(-1);
        }
    }
}
