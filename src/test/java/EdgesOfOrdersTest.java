/** The edges of promises 8 and 10: orders that are run wholly or not at all, and where they stopped. */
public final class EdgesOfOrdersTest {
    public static void main(String[] args) {
        whatTheSumsAre();
        howManyWereRun();
        noneIsRun();
        theMostThatCanBeRun();
        onceWithoutTimes();
        ifIsAskedEachTime();
        ifIsAskedAheadOfSums();
        brokenIf();
        doneAtFirst();
        latestAtFirst();
        wordsWithoutSuchAHeap();
        wordsOfSuchAHeap();
        sumsAtTheirBound();
        brokenSums();
        placesOfSwap();
        cutsAtTheirBounds();
        heapsAtTheirBounds();
        stepsThatCannotBe();
        allIsAsItWas();
        allIsAsItWasWithoutRoom();
        ordersThatCannotBeRead();
        tapeIsEmptyThen();
        whatWasRunCanBeUndone();
        stoppedAtFirst();
        stoppedAtEachClause();
        stoppedStays();
        Check.finish("EdgesOfOrdersTest");
    }

    /** Orders that can't be: refused once, by -3, at a clause, the heaps as they were. */
    private static void cannot(String text, int clause, int... cards) {
        Counted x = Counted.with(cards);
        Check.due(text, x.orders(text), -3);
        Check.due("stopped: " + text, x.stopped(), clause);
        Check.due("status: " + text, x.status(), -3);
        int[] counts = {0, 0, 1, 0, 0};
        for (int i = 0; i < counts.length; i++) {
            Check.due("count(" + (5 + i) + "): " + text, x.count(5 + i), counts[i]);
        }
        Check.due("what can be undone: " + text, x.count(3), 0);
        Check.due("claps: " + text, x.of(0, 1), 0);
        Check.due("last: " + text, x.of(0, 2), 0);
        x.lies(0, cards);
    }

    private static void can(String text, int run, int... cards) {
        Counted x = Counted.with(cards);
        Check.due(text, x.orders(text), run);
        Check.due("stopped: " + text, x.stopped(), -1);
        Check.due("status: " + text, x.status(), 0);
        Check.due("what can be undone: " + text, x.count(3), Math.min(run, 16));
    }

    private static void whatTheSumsAre() {
        Edge.says(8, "(a HEAP; two places, a HEAP; how many, a HEAP.)");
        Counted x = Counted.with(4, 5, 6, 7);
        x.heap(3, 1, 2);
        x.heap(8, 9, 10);
        Check.due("a heap", x.orders("step 1"), 1);
        x.lies(1, 2, 1, 3);
        Check.due("two places, a heap", x.orders("swap 0 with 2 of 1"), 1);
        x.lies(1, 3, 1, 2);
        Check.due("two places, a heap", x.orders("swap 2 with 1 of 0"), 1);
        x.lies(0, 4, 6, 5, 7);
        Check.due("how many, a heap", x.orders("cut 2 of 1"), 1);
        x.lies(1, 2, 3, 1);
        Check.due("how many, a heap", x.orders("cut 1 of 2"), 1);
        x.lies(2, 9, 10, 8);
        x.lies(1, 2, 3, 1);
        x.lies(0, 4, 6, 5, 7);
    }

    private static void howManyWereRun() {
        Edge.says(8, "ORDERS, the TAPE is empty then: how many were run.");
        can("cut 1 of 0", 1, 3, 1, 2);
        can("cut 1 of 0;cut 1 of 0 if 1=2;cut 1 of 0 times 3", 4, 3, 1, 2);
        can("step 0;step 0", 2, 3, 1, 2);
        can("swap 0 with 1 of 0 times 20", 20, 3, 1, 2);
    }

    private static void noneIsRun() {
        Edge.says(8, "ORDERS, the TAPE is empty then: how many were run.");
        can("cut 1 of 0 if 1=2", 0, 3, 1, 2);
        can("step 0 times 20 if 1=2", 0, 1, 2);
        Counted x = new Counted();
        Check.due("without heaps", x.orders("step 0 if heaps>0"), 0);
        Check.due("status", x.status(), 0);
    }

    private static void theMostThatCanBeRun() {
        Edge.says(8, "Run CLAUSE by CLAUSE, each as often as TIMES tell (once without)");
        can("cut 1 of 0 times 20" + ";cut 1 of 0 times 20".repeat(11), 240, 3, 1, 2);
    }

    private static void onceWithoutTimes() {
        Edge.says(8, "each as often as TIMES tell (once without)");
        Counted x = Counted.with(5, 6, 7);
        Check.due("once", x.orders("cut 1 of 0"), 1);
        x.lies(0, 6, 7, 5);
        Check.due("once, too", x.orders("cut 1 of 0 times 1"), 1);
        x.lies(0, 7, 5, 6);
        Check.due("twice", x.orders("cut 1 of 0 times 2"), 2);
        x.lies(0, 6, 7, 5);
    }

    private static void ifIsAskedEachTime() {
        Edge.says(8, "each time its \"if\" is asked (not run, if it is not so or BROKEN), then its SUMS from the left.");
        Counted x = Counted.with(5, 6, 7);
        Check.due("till 7 is on top", x.orders("cut 1 of 0 times 20 if not top 0=7"), 2);
        x.lies(0, 7, 5, 6);
        Check.due("each second time", x.orders("cut 1 of 0 times 4 if done<2"), 2);
        x.lies(0, 6, 7, 5);
        Check.due("its sums, too", x.orders("swap done with done+1 of 0 times 2"), 2);
        // 6 7 5 becomes 7 6 5, that 7 5 6.
        x.lies(0, 7, 5, 6);
    }

    private static void ifIsAskedAheadOfSums() {
        Edge.says(8, "each time its \"if\" is asked (not run, if it is not so or BROKEN), then its SUMS from the left.");
        can("cut 1/0 of 0 if 1=2;cut 9 of 9 if 1=2;step 9 if 1=2", 0, 3, 1, 2);
        cannot("cut 1/0 of 0 if 1=1", 0, 3, 1, 2);
    }

    private static void brokenIf() {
        Edge.says(8, "(not run, if it is not so or BROKEN)");
        can("cut 1 of 0 if 1/0=1", 0, 3, 1, 2);
        can("cut 1 of 0 if not 1/0=1", 0, 3, 1, 2);
        can("cut 1 of 0 if 1000*1000*1000+1>0", 0, 3, 1, 2);
        can("cut 1 of 0 if 1000*1000*1000>0", 1, 3, 1, 2);
        can("cut 1 of 0 if 1=1 or 1/0=1", 1, 3, 1, 2);
        can("cut 1 of 0 if 1/0=1 or 1=1", 0, 3, 1, 2);
        can("cut 1 of 0 if not (1=2 and 1/0=1)", 1, 3, 1, 2);
    }

    private static void doneAtFirst() {
        Edge.says(8, "done: how many were run in this TEXT");
        can("cut 1 of 0 if done=0", 1, 3, 1, 2);
        can("cut 1 of 0 times 5;cut 1 of 0 if done=5", 6, 3, 1, 2);
        can("cut 1 of 0 if 1=2;cut 1 of 0 if done=0", 1, 3, 1, 2);
        can("cut 1 of 0 times 20" + ";cut 1 of 0 times 20".repeat(10) + ";cut 1 of 0 times 20 if done<221", 221, 3, 1, 2);
        Counted x = Counted.with(3, 1, 2);
        x.orders("cut 1 of 0 times 3");
        Check.due("from 0 in each text", x.orders("cut 1 of 0 if done=0"), 1);
    }

    private static void latestAtFirst() {
        Edge.says(8, "latest: CLAPS that the latest step in it told (-1: none)");
        can("cut 1 of 0 if latest=0-1", 1, 3, 1, 2);
        can("cut 1 of 0;swap 0 with 1 of 0;cut 1 of 0 if latest=0-1", 3, 3, 1, 2);
        can("step 0;cut 1 of 0 if latest=1;swap 0 with 1 of 0 if latest=1", 3, 3, 1, 2);
        can("step 0 times 2;cut 1 of 0 if latest=2", 3, 3, 1, 2);
        Counted x = Counted.with(3, 1, 2);
        x.heap(2, 1, 3);
        x.step(0);
        Check.due("a step ahead of the text is none", x.orders("cut 1 of 1 if latest=0-1"), 1);
        Check.due("none in each text", x.orders("step 0;cut 3 of 0"), 2);
        Check.due("none in each text", x.orders("cut 3 of 0 if latest=0-1"), 1);
        // Undone to the step ahead of these texts: heap 0 has one clap, heap 1 none.
        x.undo();
        x.undo();
        x.undo();
        x.undo();
        Check.due("of whichever heap", x.orders("step 0;cut 3 of 0 if latest=2;step 1;cut 3 of 0 if latest=1"), 4);
    }

    private static void wordsWithoutSuchAHeap() {
        Edge.says(8, "top, claps, many: -1 without such a HEAP.");
        for (String word : new String[] {"top", "claps", "many"}) {
            for (int h = 1; h <= 5; h++) {
                can("cut 1 of 0 if " + word + " " + h + "=0-1", 1, 3, 1, 2);
            }
            Counted x = Scene.sixHeaps();
            x.end(0);
            Check.due("heap 5 is there", x.orders("cut 1 of 0 if " + word + " 5>0-1"), 1);
        }
        Counted y = new Counted();
        Check.due("no heaps", y.orders("step 0 if not (top 0=0-1 and claps 0=0-1 and many 0=0-1 and heaps=0)"), 0);
        Check.due("no heaps", y.orders("step 0 if top 0=0-1 and claps 0=0-1 and many 0=0-1 and heaps=0"), -3);
    }

    private static void wordsOfSuchAHeap() {
        Edge.says(8, "Words: \"heaps\" | \"done\" | \"latest\" | \"top\" H | \"claps\" H | \"many\" H (H: a NUMBER 0 .. 5).");
        Counted x = new Counted();
        for (int i = 0; i < 6; i++) {
            int[] cards = new int[i + 2];
            cards[0] = 2;
            cards[1] = 7 + i;
            x.heap(cards);
        }
        x.step(5);
        x.step(4);
        x.cut(0, 1);
        int[] tops = {7, 2, 2, 2, 11, 12};
        int[] claps = {0, 0, 0, 0, 1, 1};
        for (int i = 0; i < 6; i++) {
            String text = "cut 1 of 0 if top " + i + "=" + tops[i] + " and claps " + i + "=" + claps[i] + " and many " + i + "=" + (i + 2)
                    + " and heaps=6";
            Check.due(text, x.orders(text), 1);
            x.undo();
        }
    }

    private static void sumsAtTheirBound() {
        Edge.says(8, "Beyond 1,000,000,000 either way");
        can("step 1000*1000*1000-1000*1000*1000", 1, 3, 1, 2);
        cannot("step 1000*1000*1000+1-1000*1000*1000", 0, 3, 1, 2);
        can("step 0-1000*1000*1000+1000*1000*1000", 1, 3, 1, 2);
        cannot("step 0-1000*1000*1000-1+1000*1000*1000", 0, 3, 1, 2);
    }

    private static void brokenSums() {
        Edge.says(8, "One that can't be (a BROKEN SUM, as step(), swap(), cut() are REFUSED) ends it");
        cannot("step 0/0", 0, 3, 1, 2);
        cannot("step 0%0", 0, 3, 1, 2);
        cannot("swap 1/0 with 1 of 0", 0, 3, 1, 2);
        cannot("swap 0 with 1/0 of 0", 0, 3, 1, 2);
        cannot("swap 0 with 1 of 1/0", 0, 3, 1, 2);
        cannot("cut 1/0 of 0", 0, 3, 1, 2);
        cannot("cut 1 of 1/0", 0, 3, 1, 2);
        cannot("cut 1 of 0 times 4;cut 1/[4-done] of 0", 1, 3, 1, 2);
        cannot("cut 1/[4-done] of 0 times 20", 0, 1, 1, 1);
    }

    private static void placesOfSwap() {
        Edge.says(8, "One that can't be (a BROKEN SUM, as step(), swap(), cut() are REFUSED) ends it");
        can("swap 0 with 2 of 0", 1, 3, 1, 2);
        can("swap 2 with 0 of 0", 1, 3, 1, 2);
        cannot("swap 0 with 3 of 0", 0, 3, 1, 2);
        cannot("swap 3 with 0 of 0", 0, 3, 1, 2);
        cannot("swap 0-1 with 0 of 0", 0, 3, 1, 2);
        cannot("swap 0 with 0-1 of 0", 0, 3, 1, 2);
        cannot("swap 1 with 1 of 0", 0, 3, 1, 2);
        cannot("swap 0 with 1 of 0", 0, 3);
    }

    private static void cutsAtTheirBounds() {
        Edge.says(8, "One that can't be (a BROKEN SUM, as step(), swap(), cut() are REFUSED) ends it");
        can("cut 1 of 0", 1, 3, 1, 2);
        can("cut 3 of 0", 1, 3, 1, 2);
        cannot("cut 0 of 0", 0, 3, 1, 2);
        cannot("cut 4 of 0", 0, 3, 1, 2);
        cannot("cut 0-1 of 0", 0, 3, 1, 2);
        cannot("cut 1000*1000*1000 of 0", 0, 3, 1, 2);
    }

    private static void heapsAtTheirBounds() {
        Edge.says(8, "One that can't be (a BROKEN SUM, as step(), swap(), cut() are REFUSED) ends it");
        for (String heap : new String[] {"0-1", "1", "5", "6", "1000", "1000*1000*1000", "0-1000*1000*1000"}) {
            cannot("step " + heap, 0, 3, 1, 2);
            cannot("swap 0 with 1 of " + heap, 0, 3, 1, 2);
            cannot("cut 1 of " + heap, 0, 3, 1, 2);
        }
        Counted x = Scene.sixHeaps();
        x.end(0);
        Check.due("heap 5", x.orders("cut 1 of 5;swap 0 with 1 of 5"), 2);
        Check.due("heap 6", x.orders("cut 1 of 6"), -3);
    }

    private static void stepsThatCannotBe() {
        Edge.says(8, "One that can't be (a BROKEN SUM, as step(), swap(), cut() are REFUSED) ends it");
        cannot("step 0", 0, 1, 2, 3);
        cannot("step 0", 0, 4, 2, 3);
        cannot("step 0 times 3", 0, 3, 1, 2);
        can("step 0 times 2", 2, 3, 1, 2);
    }

    private static void allIsAsItWas() {
        Edge.says(8, "ends it: all is as it was ahead of it.");
        Untouched.by(Scene::rich, "orders() the third of which can't be", x -> {
            x.end(0);
            return x.orders("cut 1 of 0 times 20;swap 0 with 1 of 1;step 2 times 2;step 9");
        }).tapeIsEmpty().fault(-1).stopped(3).refused(-3);
        Untouched.by(Scene::rich, "orders() the last time of which can't be", x -> {
            x.end(0);
            return x.orders("cut 1/[19-done] of 2 times 20");
        }).tapeIsEmpty().fault(-1).stopped(0).refused(-3);
    }

    private static void allIsAsItWasWithoutRoom() {
        Edge.says(8, "ends it: all is as it was ahead of it.");
        Untouched.by(Scene::sixteenChanges, "orders() that change much and can't be", x -> {
            x.end(0);
            return x.orders("cut 1 of 0 times 20;cut 1 of 1 times 20;cut 1 of 2 times 20;step 6");
        }).tapeIsEmpty().fault(-1).stopped(3).refused(-3);
    }

    private static void ordersThatCannotBeRead() {
        Edge.says(8, "-3 one can't be; -6 (as for law()).");
        Untouched.by(Scene::rich, "orders() with a fault at the end", x -> {
            x.end(0);
            return x.orders("cut 1 of 0;cut 1 of 1;");
        }).tapeIsEmpty().fault(22).stopped(-1).refused(-6);
        Untouched.by(Scene::sixteenChanges, "orders() of a law", x -> {
            x.end(0);
            return x.orders("ends");
        }).tapeIsEmpty().fault(0).stopped(-1).refused(-6);
        Untouched.by(Scene::rich, "orders() of nothing", x -> {
            x.end(0);
            return x.orders();
        }).tapeIsEmpty().fault(0).stopped(-1).refused(-6);
    }

    private static void tapeIsEmptyThen() {
        Edge.says(8, "ORDERS, the TAPE is empty then");
        for (String text : new String[] {"cut 1 of 0", "cut 1 of 0 if 1=2", "step 9", "x"}) {
            Counted x = Counted.with(3, 1, 2);
            x.orders(text);
            Check.due("bytes behind " + text, x.count(4), 0);
            Check.due("no second run of " + text, x.orders(), -6);
        }
    }

    private static void whatWasRunCanBeUndone() {
        Edge.says(15, "The latest step(), swap(), cut() (by ORDERS, too; 16 are kept) is undone: 0, 1, 2.");
        Counted x = Counted.with(3, 1, 2);
        x.orders("step 0;swap 0 with 2 of 0;cut 2 of 0");
        Check.due("three", x.count(3), 3);
        Check.due("the cut", x.undo(), 2);
        x.lies(0, 3, 1, 2);
        Check.due("the swap", x.undo(), 1);
        x.lies(0, 2, 1, 3);
        Check.due("the step", x.undo(), 0);
        x.lies(0, 3, 1, 2);
        Check.due("none", x.undo(), -3);
        x.orders("step 0;cut 1 of 0 times 15");
        Check.due("sixteen", x.count(3), 16);
        x.orders("cut 1 of 0");
        Check.due("seventeen were made", x.count(3), 16);
        for (int i = 0; i < 16; i++) {
            Check.due("a cut", x.undo(), 2);
        }
        Check.due("the step is not kept", x.undo(), -3);
        x.lies(0, 2, 1, 3);
    }

    private static void stoppedAtFirst() {
        Edge.says(10, "Which CLAUSE of the latest orders() could not be. NONE.");
        Counted x = Counted.with(3, 1, 2);
        Check.due("no orders yet", x.stopped(), -1);
        x.orders("cut 1 of 0");
        Check.due("all could be", x.stopped(), -1);
        x.orders("step 1");
        Check.due("the first", x.stopped(), 0);
        x.orders("cut 1 of 0 if 1=2");
        Check.due("none was run", x.stopped(), -1);
        x.orders("cut 1 of 0;step 1");
        Check.due("the second", x.stopped(), 1);
        x.orders("x");
        Check.due("not read", x.stopped(), -1);
        x.orders("step 1");
        x.orders();
        Check.due("nothing to read", x.stopped(), -1);
    }

    private static void stoppedAtEachClause() {
        Edge.says(10, "Which CLAUSE of the latest orders() could not be.");
        for (int clause = 0; clause < 12; clause++) {
            String text = "cut 1 of 0;".repeat(clause) + "step 1" + ";cut 1 of 0".repeat(11 - clause);
            cannot(text, clause, 3, 1, 2);
        }
        cannot("cut 1 of 0 times 20;cut 1 of 0 if 1=2;step 1;step 2", 2, 3, 1, 2);
    }

    private static void stoppedStays() {
        Edge.says(10, "Which CLAUSE of the latest orders() could not be.");
        Counted x = Counted.with(3, 1, 2);
        x.image(0);
        x.orders("cut 1 of 0;step 1");
        x.step(0);
        x.step(9);
        x.undo();
        x.law("x");
        x.law("ends");
        x.heap(14);
        x.heap(1);
        x.terms(0, 1);
        x.back(0);
        Check.due("no other call changes it", x.stopped(), 1);
    }
}
