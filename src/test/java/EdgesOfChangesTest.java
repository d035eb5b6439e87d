/** The edges of promises 12 to 15: step, swap, cut, undo. */
public final class EdgesOfChangesTest {
    private static final int LEAST = Integer.MIN_VALUE;
    private static final int GREATEST = Integer.MAX_VALUE;
    private static final int[] NO_HEAPS = {-1, LEAST, 3, 5, 6, GREATEST};

    public static void main(String[] args) {
        stepTurnsNone();
        stepTurnsOneOrAll();
        stepSinksNoneOrAll();
        stepSinksAskedAhead();
        stepOfOneCard();
        stepClapsAtMost();
        stepLastAtMost();
        stepLastIsWhatWasTurned();
        stepWithoutSuchAHeap();
        stepThatCannotBe();
        stepFirstRefusal();
        swapPlaces();
        swapAlikeCards();
        swapLeavesLastAndClaps();
        swapNoSuchPlaces();
        swapOnePlaceTwice();
        swapWithoutSuchAHeap();
        cutAtItsBounds();
        cutAllAsTheyLie();
        cutLeavesLastAndClaps();
        cutBeyondItsBounds();
        cutWithoutSuchAHeap();
        undoNothing();
        undoEachKind();
        undoSixteen();
        undoGoesRound();
        undoAndChangeAgain();
        undoOfUnlikeHeaps();
        undoNothingAheadOfAHeap();
        undoNothingAheadOfTerms();
        undoBehindRefusals();
        undoBehindOtherCalls();
        undoOfClapsAtMost();
        Check.finish("EdgesOfChangesTest");
    }

    private static void stepTurnsNone() {
        Edge.says(12, "as many of the upper CARDS as it TURNS are turned over as a block (the last of them is on TOP then)");
        Counted x = Counted.under("turns 0;ends if 1=2", 4, 5, 6);
        Check.due("none is turned", x.step(0), 1);
        x.lies(0, 4, 5, 6);
        Check.due("last", x.of(0, 2), 0);
        Check.due("again", x.step(0), 2);
        Counted y = Counted.with(0, 3, 2);
        Check.due("a joker from last 0", y.step(0), 1);
        y.lies(0, 0, 3, 2);
        Check.due("last", y.of(0, 2), 0);
    }

    private static void stepTurnsOneOrAll() {
        Edge.says(12, "as many of the upper CARDS as it TURNS are turned over as a block (the last of them is on TOP then)");
        Counted x = Counted.under("turns 1;ends if 1=2", 4, 5, 6);
        x.step(0);
        x.lies(0, 4, 5, 6);
        Check.due("last", x.of(0, 2), 1);
        Counted y = Counted.with(3, 5, 6);
        Check.due("all", y.step(0), 1);
        y.lies(0, 6, 5, 3);
        Counted z = Counted.with(13, 2, 3, 4, 5, 6, 7, 8, 9, 10, 11, 12, 0);
        Check.due("all thirteen", z.step(0), 1);
        z.lies(0, 0, 12, 11, 10, 9, 8, 7, 6, 5, 4, 3, 2, 13);
        Counted w = Counted.with(12, 2, 3, 4, 5, 6, 7, 8, 9, 10, 11, 1, 13);
        Check.due("all but the lowest", w.step(0), 1);
        w.lies(0, 1, 11, 10, 9, 8, 7, 6, 5, 4, 3, 2, 12, 13);
    }

    private static void stepSinksNoneOrAll() {
        Edge.says(12, "go beneath all others, as they lie");
        Counted x = Counted.under("turns 2;sinks 0", 4, 5, 6, 7);
        x.step(0);
        x.lies(0, 5, 4, 6, 7);
        Counted y = Counted.under("turns 2;sinks 4", 4, 5, 6, 7);
        y.step(0);
        y.lies(0, 5, 4, 6, 7);
        Counted z = Counted.under("turns 2;sinks 3", 4, 5, 6, 7);
        z.step(0);
        z.lies(0, 7, 5, 4, 6);
        Counted w = Counted.under("turns 0;sinks 1", 4, 5, 6, 7);
        w.step(0);
        w.lies(0, 5, 6, 7, 4);
    }

    private static void stepSinksAskedAhead() {
        Edge.says(12, "then as many of the upper ones as it SINKS (asked ahead of turning)");
        Counted x = Counted.under("turns 3;sinks top;ends if 1=2", 1, 5, 2, 4);
        // The top is 1 ahead of turning, 2 behind it.
        x.step(0);
        x.lies(0, 5, 1, 4, 2);
        Counted y = Counted.under("turns 2;sinks last", 4, 5, 6, 7);
        y.step(0);
        y.lies(0, 5, 4, 6, 7);
        y.step(0);
        y.lies(0, 6, 7, 4, 5);
    }

    private static void stepOfOneCard() {
        Edge.says(12, "A STEP (not ENDED, not STUCK)");
        Check.due("an ace", Counted.with(1).step(0), -3);
        Check.due("a two", Counted.with(2).step(0), -3);
        Check.due("a joker", Counted.with(0).step(0), 1);
        Counted x = Counted.under("turns 1;sinks 1;ends if 1=2", 7);
        Check.due("one turned, one sunk", x.step(0), 1);
        x.lies(0, 7);
    }

    private static void stepClapsAtMost() {
        Edge.says(12, "CLAPS are one more (9,999 at most)");
        Counted x = manyClaps();
        Check.due("claps", x.of(0, 1), 9998);
        Check.due("the most", x.step(0), 9999);
        Check.due("no more", x.step(0), 9999);
        Check.due("status", x.status(), 0);
        Check.due("claps", x.of(0, 1), 9999);
        Check.due("by orders", x.orders("step 0 times 3;step 0 if latest=[1000*10-1] and claps 0=latest"), 4);
        Check.due("claps", x.of(0, 1), 9999);
    }

    /** A heap of 9,998 claps: 41 texts of 240 steps each, one of 158, in no more calls than need be. */
    private static Counted manyClaps() {
        Counted x = Counted.under("turns 0;ends if 1=2", 3, 1, 2);
        String much = "step0times20;".repeat(11) + "step0times20     ";
        for (int i = 0; i < 41; i++) {
            Check.due("240 steps", x.orders(much), 240);
        }
        Check.due("158 steps", x.orders("step0times20;".repeat(7) + "step0times18"), 158);
        return x;
    }

    private static void stepLastAtMost() {
        Edge.says(12, "LAST is how many were turned (13 at most).");
        Counted x = Counted.with(13, 2, 3, 4, 5, 6, 7, 8, 9, 10, 11, 12, 0);
        x.step(0);
        Check.due("thirteen", x.of(0, 2), 13);
        Check.due("a joker turns thirteen", x.step(0), 2);
        Check.due("thirteen", x.of(0, 2), 13);
        x.lies(0, 13, 2, 3, 4, 5, 6, 7, 8, 9, 10, 11, 12, 0);
    }

    private static void stepLastIsWhatWasTurned() {
        Edge.says(12, "LAST is how many were turned (13 at most).");
        Counted x = Counted.under("turns 2 if last=0;turns 0 if last=2;sinks 3", 4, 5, 6);
        x.step(0);
        Check.due("two were turned, three sunk", x.of(0, 2), 2);
        x.step(0);
        Check.due("none were turned, three sunk", x.of(0, 2), 0);
    }

    private static void stepWithoutSuchAHeap() {
        Edge.says(12, "A STEP: CLAPS then. -2; -3.");
        for (int heap : NO_HEAPS) {
            Untouched.by(Scene::rich, "step(" + heap + ")", x -> x.step(heap)).refused(-2);
        }
        Untouched.by(Scene::sixHeaps, "step(6)", x -> x.step(6)).refused(-2);
        Untouched.by(Scene::nothing, "step(0) without heaps", x -> x.step(0)).refused(-2);
    }

    private static void stepThatCannotBe() {
        Edge.says(12, "A STEP: CLAPS then. -2; -3.");
        Untouched.by(() -> onTop(1), "step() of what has ended", x -> x.step(0)).refused(-3);
        Untouched.by(() -> onTop(2), "step() of what sticks", x -> x.step(0)).refused(-3);
        Untouched.by(EdgesOfChangesTest::endedFull, "step() of what has ended, sixteen kept", x -> x.step(0)).refused(-3);
    }

    /** The rich scene, heap 0 having ended (1) or sticking (2) by a law. */
    private static Counted onTop(int how) {
        Counted x = Scene.rich();
        x.end(0);
        x.law(how == 1 ? "ends" : "turns many+1;ends if 1=2");
        x.force(2);
        x.put(Scene.TAPE);
        return x;
    }

    private static Counted endedFull() {
        Counted x = Scene.sixteenChanges();
        x.end(0);
        x.law("ends");
        x.force(2);
        x.put(Scene.TAPE);
        return x;
    }

    private static void stepFirstRefusal() {
        Edge.says(12, "The first of these in that order.");
        Untouched.by(() -> onTop(1), "step(9), where all have ended", x -> x.step(9)).refused(-2);
        Untouched.by(() -> onTop(2), "step(-1), where all stick", x -> x.step(-1)).refused(-2);
    }

    private static void swapPlaces() {
        Edge.says(13, "To SWAP: two CARDS change places.");
        Counted x = Counted.with(1, 2, 3, 4, 5, 6, 7, 8, 9, 10, 11, 12, 13);
        Check.due("the first with the last", x.swap(0, 0, 12), 13);
        x.lies(0, 13, 2, 3, 4, 5, 6, 7, 8, 9, 10, 11, 12, 1);
        Check.due("the last with the first", x.swap(0, 12, 0), 1);
        Check.due("the last two", x.swap(0, 11, 12), 1);
        x.lies(0, 1, 2, 3, 4, 5, 6, 7, 8, 9, 10, 11, 13, 12);
        Check.due("the first two", x.swap(0, 1, 0), 2);
        Counted y = Counted.with(0, 4);
        Check.due("a joker comes on top", y.swap(0, 0, 1), 4);
        Check.due("a joker's top is 0", y.swap(0, 0, 1), 0);
        Check.due("that is not refused", y.status(), 0);
    }

    private static void swapAlikeCards() {
        Edge.says(13, "To SWAP: the TOP then.");
        Counted x = Counted.with(5, 5);
        Check.due("alike cards", x.swap(0, 0, 1), 5);
        x.lies(0, 5, 5);
        Check.due("it can be undone", x.count(3), 1);
        Check.due("undo", x.undo(), 1);
    }

    private static void swapLeavesLastAndClaps() {
        Edge.says(13, "(LAST, CLAPS stay.)");
        Counted x = Counted.with(3, 1, 2);
        x.step(0);
        x.swap(0, 0, 1);
        Check.due("last", x.of(0, 2), 3);
        Check.due("claps", x.of(0, 1), 1);
    }

    private static void swapNoSuchPlaces() {
        Edge.says(13, "-1 (no such places, one place twice); -2 (ahead of -1).");
        int[][] places = {{-1, 0}, {0, -1}, {3, 0}, {0, 3}, {LEAST, 0}, {0, GREATEST}, {-1, 3}, {13, 14}, {LEAST, GREATEST}};
        for (int[] two : places) {
            String name = "swap(0, " + two[0] + ", " + two[1] + ")";
            Untouched.by(Scene::rich, name, x -> x.swap(0, two[0], two[1])).refused(-1);
        }
        Untouched.by(Scene::sixteenChanges, "swap(2, 0, 4)", x -> x.swap(2, 0, 4)).refused(-1);
        Counted one = Counted.with(5);
        Check.due("one card has no second place", one.swap(0, 0, 1), -1);
    }

    private static void swapOnePlaceTwice() {
        Edge.says(13, "-1 (no such places, one place twice); -2 (ahead of -1).");
        for (int place : new int[] {0, 1, 2, 3, -1}) {
            Untouched.by(Scene::rich, "swap(0, " + place + " twice)", x -> x.swap(0, place, place)).refused(-1);
        }
    }

    private static void swapWithoutSuchAHeap() {
        Edge.says(13, "-2 (ahead of -1).");
        for (int heap : NO_HEAPS) {
            Untouched.by(Scene::rich, "swap(" + heap + ", 0, 1)", x -> x.swap(heap, 0, 1)).refused(-2);
            Untouched.by(Scene::rich, "swap(" + heap + ", 0, 0)", x -> x.swap(heap, 0, 0)).refused(-2);
            Untouched.by(Scene::rich, "swap(" + heap + ", -1, 99)", x -> x.swap(heap, -1, 99)).refused(-2);
        }
        Untouched.by(Scene::nothing, "swap(0, 0, 1) without heaps", x -> x.swap(0, 0, 1)).refused(-2);
    }

    private static void cutAtItsBounds() {
        Edge.says(14, "To CUT 1 .. as many as there are: the TOP then.");
        Counted x = Counted.with(4, 5, 6);
        Check.due("one", x.cut(0, 1), 5);
        x.lies(0, 5, 6, 4);
        Check.due("two", x.cut(0, 2), 4);
        x.lies(0, 4, 5, 6);
        Counted y = Counted.with(1, 2, 3, 4, 5, 6, 7, 8, 9, 10, 11, 12, 13);
        Check.due("twelve of thirteen", y.cut(0, 12), 13);
        y.lies(0, 13, 1, 2, 3, 4, 5, 6, 7, 8, 9, 10, 11, 12);
        Counted z = Counted.with(4, 0);
        Check.due("a joker's top is 0", z.cut(0, 1), 0);
        Check.due("that is not refused", z.status(), 0);
    }

    private static void cutAllAsTheyLie() {
        Edge.says(14, "To CUT: so many of the upper ones go beneath all others, as they lie.");
        Counted x = Counted.with(4, 5, 6);
        Check.due("all", x.cut(0, 3), 4);
        x.lies(0, 4, 5, 6);
        Check.due("it can be undone", x.count(3), 1);
        Check.due("undo", x.undo(), 2);
        Counted y = Counted.with(9);
        Check.due("the only one", y.cut(0, 1), 9);
        Counted z = Counted.with(1, 2, 3, 4, 5, 6, 7, 8, 9, 10, 11, 12, 13);
        Check.due("thirteen", z.cut(0, 13), 1);
        Check.due("fourteen", z.cut(0, 14), -1);
    }

    private static void cutLeavesLastAndClaps() {
        Edge.says(14, "(LAST, CLAPS stay.)");
        Counted x = Counted.with(3, 1, 2);
        x.step(0);
        x.cut(0, 1);
        Check.due("last", x.of(0, 2), 3);
        Check.due("claps", x.of(0, 1), 1);
    }

    private static void cutBeyondItsBounds() {
        Edge.says(14, "To CUT 1 .. as many as there are: the TOP then. -1; -2 (ahead of -1).");
        for (int many : new int[] {0, -1, LEAST, 4, 13, 14, GREATEST}) {
            Untouched.by(Scene::rich, "cut(0, " + many + ")", x -> x.cut(0, many)).refused(-1);
        }
        Untouched.by(Scene::sixteenChanges, "cut(2, 5)", x -> x.cut(2, 5)).refused(-1);
    }

    private static void cutWithoutSuchAHeap() {
        Edge.says(14, "-1; -2 (ahead of -1).");
        for (int heap : NO_HEAPS) {
            Untouched.by(Scene::rich, "cut(" + heap + ", 1)", x -> x.cut(heap, 1)).refused(-2);
            Untouched.by(Scene::rich, "cut(" + heap + ", 0)", x -> x.cut(heap, 0)).refused(-2);
            Untouched.by(Scene::rich, "cut(" + heap + ", 99)", x -> x.cut(heap, 99)).refused(-2);
        }
        Untouched.by(Scene::nothing, "cut(0, 1) without heaps", x -> x.cut(0, 1)).refused(-2);
    }

    private static void undoNothing() {
        Edge.says(15, "-3 there is none");
        Untouched.by(Scene::nothing, "undo() on a new table", x -> x.undo()).refused(-3);
        Untouched.by(() -> undone(Scene.rich()), "undo() behind the first", x -> x.undo()).refused(-3);
        Untouched.by(() -> undone(Scene.sixteenChanges()), "undo() behind sixteen", x -> x.undo()).refused(-3);
    }

    private static Counted undone(Counted x) {
        int changes = x.count(3);
        for (int i = 0; i < changes; i++) {
            x.undo();
        }
        Check.due("what can be undone", x.count(3), 0);
        return x;
    }

    private static void undoEachKind() {
        Edge.says(15, "is undone: 0, 1, 2.");
        Counted x = Counted.with(3, 1, 2);
        x.step(0);
        Check.due("a step", x.undo(), 0);
        Check.due("status", x.status(), 0);
        x.lies(0, 3, 1, 2);
        Check.due("claps", x.of(0, 1), 0);
        Check.due("last", x.of(0, 2), 0);
        x.swap(0, 0, 1);
        Check.due("a swap", x.undo(), 1);
        x.lies(0, 3, 1, 2);
        x.cut(0, 1);
        Check.due("a cut", x.undo(), 2);
        x.lies(0, 3, 1, 2);
        Check.due("what can be undone", x.count(3), 0);
        x.step(0);
        x.step(0);
        Check.due("the second step", x.undo(), 0);
        Check.due("claps of the first", x.of(0, 1), 1);
        Check.due("last of the first", x.of(0, 2), 3);
    }

    private static void undoSixteen() {
        Edge.says(15, "(by ORDERS, too; 16 are kept)");
        for (int changes : new int[] {15, 16, 17, 18, 32, 33}) {
            Counted x = Counted.with(1, 2, 3, 4, 5, 6, 7);
            for (int i = 1; i <= changes; i++) {
                x.cut(0, 1);
                Check.due("behind " + i, x.count(3), Math.min(i, 16));
            }
            int kept = Math.min(changes, 16);
            for (int i = 1; i <= kept; i++) {
                Check.due("undo " + i + " of " + changes, x.undo(), 2);
                Check.due("top", x.of(0, 7), (changes - i) % 7 + 1);
                Check.due("left", x.count(3), kept - i);
            }
            Check.due("one more", x.undo(), -3);
            Check.due("the top stays", x.of(0, 7), (changes - kept) % 7 + 1);
        }
    }

    private static void undoGoesRound() {
        Edge.says(15, "(by ORDERS, too; 16 are kept)");
        // Unlike kinds one behind another, so that a place that is taken twice shows.
        Counted x = Counted.with(0, 0, 0);
        int[] kinds = new int[40];
        for (int i = 0; i < kinds.length; i++) {
            kinds[i] = i * i % 3 == 1 ? i / 3 % 2 : 2;
            int told = kinds[i] == 0 ? x.step(0) : kinds[i] == 1 ? x.swap(0, 0, 1) : x.cut(0, 1);
            Check.holds("change " + i, told >= 0);
        }
        for (int i = kinds.length - 1; i >= kinds.length - 16; i--) {
            Check.due("change " + i, x.undo(), kinds[i]);
        }
        Check.due("none", x.undo(), -3);
    }

    private static void undoAndChangeAgain() {
        Edge.says(15, "The latest step(), swap(), cut() (by ORDERS, too; 16 are kept) is undone: 0, 1, 2.");
        Counted x = Counted.with(1, 2, 3, 4, 5, 6, 7);
        for (int i = 0; i < 20; i++) {
            x.cut(0, 1);
        }
        for (int i = 0; i < 10; i++) {
            x.undo();
        }
        Check.due("six are left", x.count(3), 6);
        Check.due("behind ten cuts", x.of(0, 7), 4);
        for (int i = 0; i < 3; i++) {
            x.swap(0, 0, 1);
        }
        Check.due("nine", x.count(3), 9);
        for (int i = 0; i < 3; i++) {
            Check.due("a swap", x.undo(), 1);
        }
        for (int i = 0; i < 6; i++) {
            Check.due("a cut", x.undo(), 2);
        }
        Check.due("none", x.undo(), -3);
        Check.due("behind four cuts", x.of(0, 7), 5);
    }

    private static void undoOfUnlikeHeaps() {
        Edge.says(15, "The latest step(), swap(), cut() (by ORDERS, too; 16 are kept) is undone: 0, 1, 2.");
        Counted x = Scene.sixHeaps();
        x.cut(5, 1);
        x.cut(0, 1);
        x.swap(4, 0, 1);
        x.lies(5, 1, 5);
        Check.due("of heap 4", x.undo(), 1);
        x.lies(4, 4, 1);
        x.lies(5, 1, 5);
        Check.due("of heap 0", x.undo(), 2);
        x.lies(0, 3, 1, 2);
        x.lies(5, 1, 5);
        Check.due("of heap 5", x.undo(), 2);
        x.lies(5, 5, 1);
    }

    private static void undoNothingAheadOfAHeap() {
        Edge.says(15, "(nothing that was ahead of a heap(), terms() that was not REFUSED can be undone)");
        Counted x = Counted.with(3, 1, 2);
        x.cut(0, 1);
        x.heap(1);
        Check.due("behind heap()", x.count(3), 0);
        Check.due("behind heap()", x.undo(), -3);
        x.lies(0, 1, 2, 3);
        x.cut(0, 1);
        Check.due("what was behind it", x.undo(), 2);
        Check.due("no more", x.undo(), -3);
    }

    private static void undoNothingAheadOfTerms() {
        Edge.says(15, "(nothing that was ahead of a heap(), terms() that was not REFUSED can be undone)");
        int[][] terms = {{0, 0}, {0, 9}, {1, 1}, {1, 300}, {1, 200}};
        for (int[] term : terms) {
            Counted x = Counted.with(3, 1, 2);
            x.cut(0, 1);
            x.terms(term[0], term[1]);
            Check.due("behind terms()", x.count(3), 0);
            Check.due("behind terms()", x.undo(), -3);
            x.swap(0, 0, 1);
            Check.due("what was behind it", x.undo(), 1);
            Check.due("no more", x.undo(), -3);
        }
    }

    private static void undoBehindRefusals() {
        Edge.says(15, "(nothing that was ahead of a heap(), terms() that was not REFUSED can be undone)");
        Counted x = Scene.sixHeaps();
        x.end(0);
        Check.due("what can be undone", x.count(3), 3);
        Check.due("no room", x.heap(1), -5);
        Check.due("behind heap() without room", x.count(3), 3);
        Check.due("a term", x.terms(0, 10), -1);
        Check.due("a term", x.terms(1, 0), -1);
        Check.due("a term", x.terms(2, 0), -1);
        Check.due("behind terms() that can't be", x.count(3), 3);
        Counted y = Counted.with(3, 1, 2);
        y.cut(0, 1);
        Check.due("a row that can't be", y.heap(14), -6);
        Check.due("behind such a heap()", y.undo(), 2);
    }

    private static void undoBehindOtherCalls() {
        Edge.says(15, "The latest step(), swap(), cut() (by ORDERS, too; 16 are kept) is undone: 0, 1, 2.");
        Counted x = Counted.with(3, 1, 2);
        x.cut(0, 1);
        x.law("turns 1");
        x.force(0);
        x.sight(0, 1);
        x.forget();
        x.evenings(0, 0, 1);
        x.image(0);
        x.back(1);
        x.back(2);
        x.orders("cut 1 of 0 if 1=2");
        Check.due("these leave it", x.count(3), 1);
        Check.due("undo", x.undo(), 2);
        x.lies(0, 3, 1, 2);
        Check.due("the law is still in force", x.count(10), 0);
    }

    private static void undoOfClapsAtMost() {
        Edge.says(15, "The latest step(), swap(), cut() (by ORDERS, too; 16 are kept) is undone: 0, 1, 2.");
        Counted x = manyClaps();
        x.step(0);
        x.step(0);
        Check.due("claps", x.of(0, 1), 9999);
        x.undo();
        Check.due("the step that told no more", x.of(0, 1), 9999);
        x.undo();
        Check.due("the step to the most", x.of(0, 1), 9998);
    }
}
