/** The edges of promises 1 to 5: a new object, feed, end, heap, of. One test for each sentence that names one. */
public final class EdgesOfTapeTest {
    private static final int LEAST = Integer.MIN_VALUE;
    private static final int GREATEST = Integer.MAX_VALUE;

    public static void main(String[] args) {
        newTableHasNoHeaps();
        newTableHasNothingElse();
        newTablesShareNothing();
        theLastCallThatCounts();
        feedTakesTheHighestByteFirst();
        feedTakesEveryByte();
        feedTellsHowMany();
        feedBeyondTheMost();
        endKeepsTheFirst();
        endBeyondBothSides();
        heapNumbers();
        heapHowManyCards();
        heapWhichCards();
        heapEmptiesTheTape();
        heapWithoutRoom();
        heapOfARowThatCannotBe();
        heapFirstRefusal();
        ofWhat();
        ofNewHeap();
        ofPlaces();
        ofWithout();
        ofNearest();
        ofTellsOneOrZero();
        Check.finish("EdgesOfTapeTest");
    }

    private static void newTableHasNoHeaps() {
        Edge.says(1, "A table without heaps.");
        Counted x = new Counted();
        Check.due("heaps", x.count(0), 0);
        for (int what = -1; what <= 20; what++) {
            Check.due("of(0, " + what + ")", x.of(0, what), -1001);
        }
        Check.due("goes", x.goes(0, 0), -1);
        Check.due("after", x.after(0, 0, 0), -1);
        Check.due("to", x.to(0, -1, 0), -1);
        Check.due("cheat", x.cheat(0, 0), -1);
        Check.due("odds", x.odds(0, 0, 0, 0), -1);
        Check.due("fits", x.fits(0, -1, 0), -1);
        Check.due("race", x.race(0, 0), -1);
        Check.due("sorted", x.sorted(0, 0), -1);
        Check.due("step", x.step(0), -2);
        Check.due("swap", x.swap(0, 0, 1), -2);
        Check.due("cut", x.cut(0, 1), -2);
        Check.due("evenings", x.evenings(0, 0, 1), -2);
        Check.due("no heap is needed", x.longest(1, 0), 0);
        Check.due("no heap is needed", x.orderly(1, 0), 1);
    }

    private static void newTableHasNothingElse() {
        Edge.says(1, "A table without heaps.");
        int[] counts = {0, 0, 0, 0, 0, 0, 0, 0, 0, 0, -1, 0, 200};
        for (int what = 0; what < counts.length; what++) {
            Check.due("count(" + what + ")", new Counted().count(what), counts[what]);
        }
        Check.due("no law", new Counted().force(0), -2);
        Check.due("no law in force", new Counted().force(-1), -1);
        Check.due("no sight", new Counted().forget(), 0);
        Check.due("no image 0", new Counted().back(0), -2);
        Check.due("no image 1", new Counted().back(1), -2);
        Check.due("nothing to undo", new Counted().undo(), -3);
        Check.due("no byte", new Counted().end(1), -1);
        Check.due("no byte", new Counted().heap(), -6);
        Check.due("no byte", new Counted().law(), -6);
        Check.due("no byte", new Counted().orders(), -6);
        Check.due("no evenings", new Counted().drawn(0), -1);
        Check.due("no fault", new Counted().fault(), -1);
        Check.due("nothing stopped", new Counted().stopped(), -1);
        Check.due("nothing refused", new Counted().status(), 0);
    }

    private static void newTablesShareNothing() {
        Edge.says(1, "A table without heaps.");
        Scene.sixHeaps();
        Scene.sixLaws();
        Scene.bothImages();
        Untouched.by(Scene::nothing, "status() of a new table", x -> x.status()).answers(0);
        Counted x = new Counted();
        Check.due("the first heap", x.heap(5, 4), 0);
        Check.due("the first law", x.law("turns 1"), 0);
        Check.due("the first sight", x.sight(0, 1), 1);
    }

    private static void theLastCallThatCounts() {
        Edge.says(1, "An object is used for at most 512 calls after it has been made");
        Counted x = Counted.with(3, 1, 2);
        while (x.calls() < Counted.MOST_CALLS - 2) {
            Check.due("cut", x.cut(0, 3), 3);
        }
        Check.due("the 511th call", x.step(0), 1);
        Check.due("the 512th call", x.of(0, 7), 2);
    }

    private static void feedTakesTheHighestByteFirst() {
        Edge.says(2, "Twenty bytes come behind the TAPE, four of each number, the highest first");
        Counted x = new Counted();
        x.feed(0x01020304, 0x05060708, 0x090A0B0C, 0x0D808182, -1);
        x.end(13);
        Check.due("heap", x.heap(), 0);
        x.lies(0, 1, 2, 3, 4, 5, 6, 7, 8, 9, 10, 11, 12, 13);
        x.feed(0x04030201, 0x80000000, 0, 0, 0);
        x.end(4);
        Check.due("the first number alone", x.heap(), 1);
        x.lies(1, 4, 3, 2, 1);
        x.feed(0x04030201, LEAST, 0, 0, 0);
        x.end(5);
        Check.due("the second number's highest byte is 128", x.heap(), -6);
        x.feed(0x04030201, GREATEST, 0, 0, 0);
        x.end(5);
        Check.due("the second number's highest byte is 127", x.heap(), -6);
        x.feed(0x04030200, -1, 0, 0, 0);
        x.end(4);
        Check.due("a 0 is a byte, too", x.heap(), 2);
        x.lies(2, 4, 3, 2, 0);
    }

    private static void feedTakesEveryByte() {
        Edge.says(2, "Twenty bytes come behind the TAPE");
        Counted x = Counted.with(5, 4);
        String twenty = "turns 1+2*3+4*5+60*7";
        Check.due("bytes", twenty.length(), 20);
        Check.due("the law", x.law(twenty), 0);
        x.force(0);
        Check.due("all twenty were there", x.of(0, 5), 1 + 6 + 20 + 420);
        String forty = "turns 1+2*3+4*5+60*7+100*2-300*2+4-2*2-1";
        Check.due("bytes", forty.length(), 40);
        Check.due("the law", x.law(forty), 1);
        x.force(1);
        Check.due("all forty were there", x.of(0, 5), 447 + 200 - 600 + 4 - 4 - 1);
    }

    private static void feedTellsHowMany() {
        Edge.says(2, "four of each number, the highest first: how many it has.");
        Counted x = new Counted();
        Check.due("twenty", x.feed(0, 0, 0, 0, 0), 20);
        Check.due("forty", x.feed(LEAST, GREATEST, -1, 0, 1), 40);
        Check.due("count(4)", x.count(4), 40);
        x.end(1);
        Check.due("behind the first byte", x.feed(0, 0, 0, 0, 0), 21);
        x.end(0);
        Check.due("from the beginning again", x.feed(0, 0, 0, 0, 0), 20);
    }

    private static void feedBeyondTheMost() {
        Edge.says(2, "NONE, if there would be more than 400.");
        for (int bytes : new int[] {0, 379, 380}) {
            Counted x = Scene.fullTape();
            x.end(bytes);
            Check.due("feed behind " + bytes, x.feed(0, 0, 0, 0, 0), bytes + 20);
            Check.due("bytes", x.count(4), bytes + 20);
        }
        for (int bytes : new int[] {381, 390, 399, 400}) {
            Untouched.by(() -> fullBut(bytes), "feed behind " + bytes, x -> x.feed(-1, -1, -1, -1, -1)).answers(-1);
        }
    }

    private static Counted fullBut(int bytes) {
        Counted x = Scene.fullTape();
        x.end(bytes);
        return x;
    }

    private static void endKeepsTheFirst() {
        Edge.says(3, "The TAPE has its first n bytes alone: n.");
        Counted x = new Counted();
        x.feed(0x02010302, 0x04000000, 0, 0, 0);
        Check.due("all it has", x.end(20), 20);
        Check.due("four", x.end(4), 4);
        Check.due("count(4)", x.count(4), 4);
        Check.due("four again", x.end(4), 4);
        x.feed(0x0D0C0000, 0, 0, 0, 0);
        Check.due("six", x.end(6), 6);
        Check.due("what was cut off does not come again", x.heap(), 0);
        x.lies(0, 2, 1, 3, 2, 13, 12);
        Check.due("none of none", x.end(0), 0);
        x.feed(0x02010302, 0, 0, 0, 0);
        Check.due("none of twenty", x.end(0), 0);
        Check.due("it is empty", x.count(4), 0);
        Check.due("one of an empty one", x.end(1), -1);
        Counted y = Scene.fullTape();
        Check.due("all 400", y.end(400), 400);
        Check.due("401", y.end(401), -1);
        Check.due("399", y.end(399), 399);
        Check.due("400 again", y.end(400), -1);
    }

    private static void endBeyondBothSides() {
        Edge.says(3, "NONE, if it has not so many, or n is below 0.");
        int length = Scene.TAPE.length();
        for (int n : new int[] {-1, LEAST, length + 1, 400, 401, GREATEST}) {
            Untouched.by(Scene::rich, "end(" + n + ")", x -> x.end(n)).answers(-1);
        }
        Untouched.by(Scene::rich, "end(" + length + ")", x -> x.end(length)).answers(length);
        Untouched.by(Scene::nothing, "end(0) of nothing", x -> x.end(0)).answers(0);
        Untouched.by(Scene::nothing, "end(1) of nothing", x -> x.end(1)).answers(-1);
    }

    private static void heapNumbers() {
        Edge.says(4, "HEAPS 0 .. 5 (6 at most): 1 .. 13 CARDS in a row, the TOP one first,");
        Counted x = new Counted();
        x.image(0);
        for (int round = 0; round < 3; round++) {
            for (int i = 0; i < 6; i++) {
                Check.due("heap " + i, x.heap(i + round, 13 - i), i);
                x.lies(i, i + round, 13 - i);
                Check.due("count(0)", x.count(0), i + 1);
                Check.due("the next one is not yet", x.of(i + 1, 0), -1001);
            }
            Check.due("no seventh", x.heap(1), -5);
            x.back(0);
            Check.due("numbers begin again", x.count(0), 0);
        }
    }

    private static void heapHowManyCards() {
        Edge.says(4, "The TAPE's bytes, 1 .. 13 of 0 .. 13, are a HEAP");
        Counted x = new Counted();
        Check.due("no byte", x.heap(), -6);
        Check.due("one", x.heap(2), 0);
        x.lies(0, 2);
        Check.due("two", x.heap(2, 2), 1);
        x.lies(1, 2, 2);
        Check.due("twelve", x.heap(1, 2, 3, 4, 5, 6, 7, 8, 9, 10, 11, 12), 2);
        x.lies(2, 1, 2, 3, 4, 5, 6, 7, 8, 9, 10, 11, 12);
        Check.due("thirteen", x.heap(13, 12, 11, 10, 9, 8, 7, 6, 5, 4, 3, 2, 1), 3);
        x.lies(3, 13, 12, 11, 10, 9, 8, 7, 6, 5, 4, 3, 2, 1);
        Check.due("fourteen", x.heap(1, 1, 1, 1, 1, 1, 1, 1, 1, 1, 1, 1, 1, 1), -6);
        x.feed(0, 0, 0, 0, 0);
        Check.due("twenty", x.heap(), -6);
        for (int i = 0; i < 20; i++) {
            x.feed(0, 0, 0, 0, 0);
        }
        Check.due("four hundred", x.heap(), -6);
        Check.due("refused", x.count(9), 4);
        Check.due("heaps", x.count(0), 4);
    }

    private static void heapWhichCards() {
        Edge.says(4, "each 1 .. 13 (numbers may come twice) or 0, a JOKER");
        Counted x = new Counted();
        Check.due("jokers alone", x.heap(0, 0, 0), 0);
        x.lies(0, 0, 0, 0);
        Check.due("the highest alone", x.heap(13, 13), 1);
        x.lies(1, 13, 13);
        Check.due("a joker and the highest", x.heap(13, 0, 1), 2);
        x.lies(2, 13, 0, 1);
        for (int card : new int[] {14, 15, 16, 32, 49, 127, 128, 129, 141, 254, 255}) {
            Check.due("the top is " + card, x.heap(card, 1), -6);
            Check.due("the lowest is " + card, x.heap(1, card), -6);
        }
        Check.due("heaps", x.count(0), 3);
    }

    private static void heapEmptiesTheTape() {
        Edge.says(4, "are a HEAP, the TAPE is empty then: its number.");
        Counted x = new Counted();
        Check.due("a heap", x.heap(1, 2), 0);
        Check.due("bytes", x.count(4), 0);
        Check.due("no second one of the same bytes", x.heap(), -6);
        Check.due("feed from the beginning", x.feed(0x03020100, 0, 0, 0, 0), 20);
    }

    private static void heapWithoutRoom() {
        Edge.says(4, "the TAPE is empty then: its number. -5; -6.");
        Untouched.by(Scene::sixHeaps, "heap() of a seventh", x -> {
            x.end(0);
            return x.heap(3, 1, 2);
        }).tapeIsEmpty().refused(-5);
    }

    private static void heapOfARowThatCannotBe() {
        Edge.says(4, "the TAPE is empty then: its number. -5; -6.");
        Untouched.by(Scene::rich, "heap() of a text", x -> x.heap()).tapeIsEmpty().refused(-6);
        Untouched.by(Scene::rich, "heap() of nothing", x -> {
            x.end(0);
            return x.heap();
        }).tapeIsEmpty().refused(-6);
        Untouched.by(Scene::sixteenChanges, "heap() of a card 14", x -> {
            x.end(0);
            return x.heap(1, 14);
        }).tapeIsEmpty().refused(-6);
    }

    private static void heapFirstRefusal() {
        Edge.says(4, "The first of these in that order.");
        Untouched.by(Scene::sixHeaps, "heap() of a text, without room", x -> x.heap()).tapeIsEmpty().refused(-5);
        Untouched.by(Scene::sixHeaps, "heap() of nothing, without room", x -> {
            x.end(0);
            return x.heap();
        }).tapeIsEmpty().refused(-5);
    }

    private static void ofWhat() {
        Edge.says(5, "Of a HEAP how many CARDS (what 0), CLAPS (1), LAST (2), whether it has ENDED (3: 1, 0), STICKS (4), "
                + "what it TURNS (5), SINKS (6;");
        Counted x = Counted.with(3, 1, 2, 9);
        // 3 1 2 9, 2 1 3 9, 1 2 3 9, and 9 3 1 2 sticks.
        int[][] due = {{4, 0, 0, 0, 0, 3, 0}, {4, 1, 3, 0, 0, 2, 0}, {4, 2, 2, 1, 0, 1, 0}};
        for (int step = 0; step < due.length; step++) {
            for (int what = 0; what < 7; what++) {
                Check.due("of(0, " + what + ") behind " + step, x.of(0, what), due[step][what]);
            }
            x.step(0);
        }
        x.heap(9, 3, 1, 2);
        int[] stuck = {4, 0, 0, 0, 1, 9, 0};
        for (int what = 0; what < 7; what++) {
            Check.due("of(1, " + what + ")", x.of(1, what), stuck[what]);
        }
        x.law("turns 1 if top=9;sinks 4");
        x.force(0);
        int[] free = {4, 0, 0, 0, 0, 1, 4};
        for (int what = 0; what < 7; what++) {
            Check.due("of(1, " + what + ") by a law", x.of(1, what), free[what]);
        }
    }

    private static void ofNewHeap() {
        Edge.says(5, "CLAPS 0 .. 9,999 (0 at first), LAST 0 .. 13: how many were turned last (0 at first).");
        Counted x = Counted.with(5, 4);
        Check.due("cards", x.of(0, 0), 2);
        Check.due("claps", x.of(0, 1), 0);
        Check.due("last", x.of(0, 2), 0);
        x.image(0);
        x.heap(2, 1);
        x.step(1);
        Check.due("claps", x.of(1, 1), 1);
        Check.due("last", x.of(1, 2), 2);
        x.back(0);
        x.heap(2, 1);
        Check.due("claps of another heap 1", x.of(1, 1), 0);
        Check.due("last of another heap 1", x.of(1, 2), 0);
    }

    private static void ofPlaces() {
        Edge.says(5, "the CARD at a place 0 on (7 and more).");
        Counted x = Counted.with(9);
        Check.due("place 0", x.of(0, 7), 9);
        Check.due("place 1", x.of(0, 8), -1001);
        x.heap(13, 12, 11, 10, 9, 8, 7, 6, 5, 4, 3, 2, 0);
        Check.due("place 0", x.of(1, 7), 13);
        Check.due("place 12", x.of(1, 19), 0);
        Check.due("place 13", x.of(1, 20), -1001);
    }

    private static void ofWithout() {
        Edge.says(5, "-1,001 without.");
        for (int what : new int[] {-1, LEAST, LEAST + 7, 11, 20, GREATEST}) {
            Untouched.by(Scene::rich, "of(2, " + what + ")", x -> x.of(2, what)).answers(-1001);
        }
        for (int heap : new int[] {-1, LEAST, 3, 5, 6, GREATEST}) {
            for (int what = 0; what <= 7; what += 7) {
                int asked = what;
                Untouched.by(Scene::rich, "of(" + heap + ", " + what + ")", x -> x.of(heap, asked)).answers(-1001);
            }
        }
        Untouched.by(Scene::sixHeaps, "of(6, 0)", x -> x.of(6, 0)).answers(-1001);
        Untouched.by(Scene::sixHeaps, "of(5, 0)", x -> x.of(5, 0)).answers(2);
    }

    private static void ofNearest() {
        Edge.says(5, "SINKS (6; both -1,000 .. 1,000, the nearest)");
        int[][] both = {{999, 999}, {1000, 1000}, {1001, 1000}, {1000000, 1000}, {1000000000, 1000}, {0, 0},
            {-999, -999}, {-1000, -1000}, {-1001, -1000}, {-1002, -1000}, {-1000000000, -1000}};
        for (int[] sum : both) {
            Counted x = Counted.under("turns " + told(sum[0]) + ";sinks " + told(sum[0]), 6, 5);
            Check.due("turns " + sum[0], x.of(0, 5), sum[1]);
            Check.due("sinks " + sum[0], x.of(0, 6), sum[1]);
        }
    }

    /** A sum of numbers to 1,000 that tells a number. */
    private static String told(int number) {
        int size = Math.abs(number);
        String sum = size / 1000000 + "*1000*1000+" + size / 1000 % 1000 + "*1000+" + size % 1000;
        return number < 0 ? "0-[" + sum + "]" : sum;
    }

    private static void ofTellsOneOrZero() {
        Edge.says(5, "whether it has ENDED (3: 1, 0), STICKS (4)");
        Counted x = Counted.with(1, 2);
        x.heap(2, 1);
        x.heap(3, 1);
        int[][] due = {{1, 0}, {0, 0}, {0, 1}};
        for (int heap = 0; heap < 3; heap++) {
            Check.due("ended " + heap, x.of(heap, 3), due[heap][0]);
            Check.due("sticks " + heap, x.of(heap, 4), due[heap][1]);
        }
    }
}
