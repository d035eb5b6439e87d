/** Promises 1 to 5: a new object, feed, end, heap, of. */
public final class TapeTest {
    public static void main(String[] args) {
        newObject();
        feed();
        end();
        heap();
        heapRefused();
        of();
        ofWithout();
        Check.finish("TapeTest");
    }

    private static void newObject() {
        Counted x = new Counted();
        int[] counts = {0, 0, 0, 0, 0, 0, 0, 0, 0, 0, -1, 0, 200};
        for (int what = 0; what < counts.length; what++) {
            Check.due("count(" + what + ") of a new object", x.count(what), counts[what]);
        }
        Check.due("status of a new object", x.status(), 0);
        Check.due("fault of a new object", x.fault(), -1);
        Check.due("stopped of a new object", x.stopped(), -1);
        Check.due("drawn of a new object", x.drawn(0), -1);
        Check.due("of a heap that is not", x.of(0, 0), -1001);
        Check.due("forget of none", x.forget(), 0);
        Check.due("NONE", TopSays.NONE, -1);
    }

    private static void feed() {
        Counted x = new Counted();
        Check.due("feed", x.feed(0x01020304, 0x05060708, 0x090A0B0C, 0x0D000102, 0x03040506), 20);
        Check.due("end", x.end(13), 13);
        Check.due("heap", x.heap(), 0);
        x.lies(0, 1, 2, 3, 4, 5, 6, 7, 8, 9, 10, 11, 12, 13);
        for (int n = 20; n <= 400; n += 20) {
            Check.due("feed to " + n, x.feed(-1, 0, Integer.MIN_VALUE, Integer.MAX_VALUE, 7), n);
        }
        Check.due("feed beyond 400", x.feed(0, 0, 0, 0, 0), -1);
        Check.due("the tape behind it", x.count(4), 400);
        Check.due("end(381)", x.end(381), 381);
        Check.due("feed to 401", x.feed(0, 0, 0, 0, 0), -1);
        Check.due("end(380)", x.end(380), 380);
        Check.due("feed to 400 again", x.feed(0, 0, 0, 0, 0), 400);
        Check.due("feed is not refused", x.status(), 0);
        Check.due("feed is not counted", x.count(5), 0);
    }

    private static void end() {
        Counted x = new Counted();
        Check.due("end(0) of nothing", x.end(0), 0);
        Check.due("end(1) of nothing", x.end(1), -1);
        x.feed(0x02010302, 0, 0, 0, 0);
        Check.due("end(21)", x.end(21), -1);
        Check.due("end(-1)", x.end(-1), -1);
        Check.due("end(least)", x.end(Integer.MIN_VALUE), -1);
        Check.due("end(greatest)", x.end(Integer.MAX_VALUE), -1);
        Check.due("the tape stays", x.count(4), 20);
        Check.due("end(20)", x.end(20), 20);
        Check.due("end(2)", x.end(2), 2);
        Check.due("end(3) behind it", x.end(3), -1);
        x.feed(0x04050000, 0, 0, 0, 0);
        Check.due("end(4)", x.end(4), 4);
        Check.due("heap of both feeds", x.heap(), 0);
        x.lies(0, 2, 1, 4, 5);
    }

    private static void heap() {
        Counted x = new Counted();
        Check.due("one card", x.heap(13), 0);
        Check.due("the tape is empty then", x.count(4), 0);
        Check.due("a joker", x.heap(0), 1);
        Check.due("thirteen cards", x.heap(0, 1, 2, 3, 4, 5, 6, 7, 8, 9, 10, 11, 13), 2);
        Check.due("the same twice", x.heap(2, 2, 2), 3);
        Check.due("the fifth", x.heap(1), 4);
        Check.due("the sixth", x.heap(5, 4), 5);
        Check.due("count(0)", x.count(0), 6);
        Check.due("the seventh", x.heap(1), -5);
        Check.due("status", x.status(), -5);
        Check.due("the tape is empty then, too", x.count(4), 0);
        Check.due("no room is ahead of a wrong row", x.heap(14), -5);
        Check.due("count(8)", x.count(8), 2);
        Check.due("count(9)", x.count(9), 0);
        x.lies(5, 5, 4);
        x.lies(3, 2, 2, 2);
    }

    private static void heapRefused() {
        Counted x = new Counted();
        Check.due("no bytes", x.heap(), -6);
        Check.due("fourteen cards", x.heap(1, 1, 1, 1, 1, 1, 1, 1, 1, 1, 1, 1, 1, 1), -6);
        Check.due("the tape is empty then", x.count(4), 0);
        Check.due("a card 14", x.heap(1, 14), -6);
        Check.due("a byte 255", x.heap(255), -6);
        Check.due("a byte 128", x.heap(1, 2, 128), -6);
        Check.due("status", x.status(), -6);
        Check.due("count(9)", x.count(9), 5);
        Check.due("count(0)", x.count(0), 0);
        Check.due("fault is not of heaps", x.fault(), -1);
        Check.due("a row behind them", x.heap(1, 13), 0);
        Check.due("status", x.status(), 0);
    }

    private static void of() {
        Counted x = Counted.with(4, 0, 13, 1);
        int[] first = {4, 0, 0, 0, 0, 4, 0, 4, 0, 13, 1};
        for (int what = 0; what < first.length; what++) {
            Check.due("of(0, " + what + ")", x.of(0, what), first[what]);
        }
        x.step(0);
        int[] then = {4, 1, 4, 1, 0, 1, 0, 1, 13, 0, 4};
        for (int what = 0; what < then.length; what++) {
            Check.due("of(0, " + what + ") behind a step", x.of(0, what), then[what]);
        }
        x.heap(5, 1, 1);
        Check.due("too high a top sticks", x.of(1, 4), 1);
        Check.due("and has not ended", x.of(1, 3), 0);
        Check.due("what it would turn", x.of(1, 5), 5);
        x.heap(0, 1);
        Check.due("a joker turns last", x.of(2, 5), 0);
        Check.due("a joker goes on", x.of(2, 4), 0);
        Counted y = Counted.under("turns 1000 * 1000; sinks 0 - 1000 * 1000", 3, 1);
        Check.due("the nearest of much", y.of(0, 5), 1000);
        Check.due("the nearest of little", y.of(0, 6), -1000);
        Check.due("status is not touched", y.status(), 0);
    }

    private static void ofWithout() {
        Counted x = Counted.with(2, 1);
        Check.due("the place behind the last", x.of(0, 9), -1001);
        Check.due("what -1", x.of(0, -1), -1001);
        Check.due("what least", x.of(0, Integer.MIN_VALUE), -1001);
        Check.due("what greatest", x.of(0, Integer.MAX_VALUE), -1001);
        Check.due("heap 1", x.of(1, 0), -1001);
        Check.due("heap -1", x.of(-1, 0), -1001);
        Check.due("heap least", x.of(Integer.MIN_VALUE, 7), -1001);
        Check.due("heap greatest", x.of(Integer.MAX_VALUE, 7), -1001);
        Check.due("of is not refused", x.count(6), 0);
    }
}
