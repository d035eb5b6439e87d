/** Tables on which much stands, so that a call which must leave all as it was has much that it could spoil. */
final class Scene {
    /** What lies on the tape: orders, so that they can be run to see whether each byte is still there. */
    static final String TAPE = "cut 2 of 1;swap 0 with 1 of 0";

    private Scene() {
    }

    static Counted nothing() {
        return new Counted();
    }

    /** Heaps 0, 1, 2, laws 0 and 1, image 0 (image 1 is not kept), and something of all else. */
    static Counted rich() {
        Counted x = early();
        x.heap(0, 4, 4, 13);
        x.terms(1, 60);
        return settle(x);
    }

    /** The same with six heaps. */
    static Counted sixHeaps() {
        Counted x = early();
        for (int i = 2; i < 6; i++) {
            Check.due("heap", x.heap(i, 1), i);
        }
        return settle(x);
    }

    /** The same with six laws. */
    static Counted sixLaws() {
        Counted x = early();
        x.heap(0, 4, 4, 13);
        for (int i = 2; i < 6; i++) {
            Check.due("law", x.law("turns " + i), i);
        }
        return settle(x);
    }

    /** The same with eight sights. */
    static Counted eightSights() {
        Counted x = early();
        x.heap(0, 4, 4, 13);
        for (int i = 2; i <= 7; i++) {
            Check.due("sight", x.sight(0, 3), i);
        }
        return settle(x);
    }

    /** The same with sixteen changes that can be undone, more having been made. */
    static Counted sixteenChanges() {
        Counted x = rich();
        for (int i = 0; i < 19; i++) {
            x.cut(i % 3, 1);
        }
        Check.due("what can be undone", x.count(3), 16);
        return x;
    }

    /** The same with 400 bytes on the tape. */
    static Counted fullTape() {
        Counted x = rich();
        x.end(0);
        x.put(TAPE + " ".repeat(400 - TAPE.length()));
        Check.due("bytes of the tape", x.count(4), 400);
        return x;
    }

    /** The same with both images kept. */
    static Counted bothImages() {
        Counted x = rich();
        x.image(1);
        x.cut(0, 2);
        return x;
    }

    private static Counted early() {
        Counted x = new Counted();
        Check.due("heap", x.heap(2, 1, 3), 0);
        Check.due("heap", x.heap(3, 1, 2), 1);
        Check.due("law", x.law("turns 2;sinks 1"), 0);
        Check.due("law", x.law("turns many;ends if top=9"), 1);
        Check.due("sight", x.sight(0, 3), 1);
        x.terms(0, 4);
        x.image(0);
        return x;
    }

    private static Counted settle(Counted x) {
        x.sight(1, 3);
        x.evenings(1, 5, 2);
        Check.due("a step", x.step(1), 1);
        Check.due("a swap", x.swap(0, 0, 2), 3);
        Check.due("a cut", x.cut(2, 1), x.of(2, 7));
        Check.due("orders that can't be", x.orders("cut 1 of 0;step 9"), -3);
        Check.due("a law or orders that can't be read", x.orders("cut ?"), -6);
        Check.due("orders that can't be, again", x.orders("cut 1 of 0;cut 1 of 1;step 9"), -3);
        // No room for a law leaves the fault; so does a law that can't be read, but for its own.
        x.put("  turns ?");
        x.law();
        x.force(0);
        x.put(TAPE);
        Check.due("status", x.status(), 0);
        return x;
    }
}
