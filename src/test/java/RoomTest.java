import java.lang.management.ManagementFactory;
import java.util.Random;

/** What the calls of one object make is counted, of the dearest kinds; and all arguments at the edges: no call throws. */
public final class RoomTest {
    /**
     * 600,000 objects of 24 bytes and 7.3 million elements of 8: what makes more bytes is surely beyond the room. (What makes
     * fewer may be, too, if it makes small things; the class makes less than a hundredth of this.)
     */
    private static final long ROOM = 600000L * 24 + 7300000L * 8;
    /** Calls of one turn below at most. */
    private static final int CALLS_AT_ONCE = 4;
    private static final int CALLS_OF_TWO_TEXTS = 45;

    private static final String LAW = "turns [top*3+second+last+third*under]%[many+1] if not (top=1 and second=2);"
            + "sinks [third+last+mood]%3 if top>1 or second<5 or third=0 or under=7;ends if top=1 and many>100";

    public static void main(String[] args) {
        for (int kind = 0; kind < 11; kind++) {
            dearest(kind);
        }
        manyLaws();
        edges();
        Check.finish("RoomTest");
    }

    private static long made() {
        com.sun.management.ThreadMXBean bean = (com.sun.management.ThreadMXBean) ManagementFactory.getThreadMXBean();
        return bean.getThreadAllocatedBytes(Thread.currentThread().getId());
    }

    private static Counted full() {
        Counted x = Counted.under(LAW, 0, 3, 2, 5, 4, 7, 6);
        x.heap(1, 2, 3, 4, 5, 6, 7, 8, 9, 10, 11, 12, 13);
        x.heap(7, 6, 5, 4, 3, 2, 1);
        x.terms(1, 300);
        x.sight(99, 3);
        return x;
    }

    private static int call(Counted x, int kind, int i) {
        switch (kind) {
            case 0:
                return x.longest(1 + i % 7, i % 5);
            case 1:
                return x.orderly(7 - i % 7, i % 4);
            case 2:
                return x.to(i % 2 * 2, i % 9 - 1, i % 7);
            case 3:
                return x.cheat(i % 3, i % 3);
            case 4:
                return x.odds(i % 2 * 2, i % 8, i % 20, i % 2);
            case 5:
                return x.fits(i % 2 * 2, i % 9 - 1, i % 7);
            case 6:
                return x.evenings(i % 3, i, 60);
            case 7:
                return x.sorted(i % 2 * 2, i % 9);
            case 8:
                return x.goes(i % 3, i % 3) + x.race(i % 3, 1);
            case 9:
                return x.image(i % 2) + x.back(i % 2) + x.step(1) + x.undo();
            default:
                return x.after(i % 3, 300, 0) + x.of(1, i % 9) + x.count(i % 14);
        }
    }

    private static void dearest(int kind) {
        Counted warm = full();
        for (int i = 0; i < 20; i++) {
            call(warm, kind, i);
        }
        long before = made();
        Counted x = full();
        long sum = 0;
        for (int i = 0; x.calls() + CALLS_AT_ONCE <= Counted.MOST_CALLS; i++) {
            sum += call(x, kind, i);
        }
        long made = made() - before;
        Check.holds("kind " + kind + " made " + made + " bytes (" + sum + ")", made < ROOM);
    }

    /** Laws and orders as long as the tape, again and again: back() makes room for new laws. */
    private static void manyLaws() {
        String law = "turns 1" + Check.times("+1", 37) + Check.times(";ends if 1=2", 6) + Check.times(";sinks 1/0", 5);
        String orders = "cut 1 of 0 times 20" + Check.times(";cut 1 of 0 times 20", 11);
        Counted x = Counted.with(3, 1, 2);
        x.image(0);
        long before = made();
        while (x.calls() + CALLS_OF_TWO_TEXTS <= Counted.MOST_CALLS) {
            x.law(law);
            x.orders(orders);
            x.back(0);
        }
        long made = made() - before;
        Check.holds("laws and orders made " + made + " bytes", made < ROOM);
    }

    /** No call may throw, whatever is asked in whatever state. */
    private static void edges() {
        int[] some = {Integer.MIN_VALUE, Integer.MIN_VALUE + 6, -1002, -2, -1, 0, 1, 2, 3, 5, 6, 7, 8, 13, 14, 99, 100, 300,
            301, 400, 1000000, 1000001, Integer.MAX_VALUE - 6, Integer.MAX_VALUE};
        Random chance = new Random(5);
        for (int run = 0; run < 120; run++) {
            Counted x = run % 4 == 0 ? new Counted() : full();
            while (x.calls() < Counted.MOST_CALLS) {
                int[] n = new int[5];
                for (int k = 0; k < 5; k++) {
                    n[k] = chance.nextBoolean() ? some[chance.nextInt(some.length)] : chance.nextInt(4);
                }
                any(x, chance.nextInt(32), n);
            }
        }
        Check.holds("no call has thrown", true);
    }

    private static int any(Counted x, int kind, int[] n) {
        switch (kind) {
            case 0: return x.feed(n[0], n[1], n[2], n[3], n[4]);
            case 1: return x.end(n[0]);
            case 2: return x.heap();
            case 3: return x.of(n[0], n[1]);
            case 4: return x.terms(n[0], n[1]);
            case 5: return x.law();
            case 6: return x.orders();
            case 7: return x.fault();
            case 8: return x.stopped();
            case 9: return x.force(n[0]);
            case 10: return x.step(n[0]);
            case 11: return x.swap(n[0], n[1], n[2]);
            case 12: return x.cut(n[0], n[1]);
            case 13: return x.undo();
            case 14: return x.goes(n[0], n[1]);
            case 15: return x.after(n[0], n[1], n[2]);
            case 16: return n[1] % 8 == 0 ? x.longest(n[0], n[1]) : x.longest(n[0] % 5, n[1]);
            case 17: return n[1] % 8 == 0 ? x.orderly(n[0], n[1]) : x.orderly(n[0] % 5, n[1]);
            case 18: return x.to(n[0], n[1], n[2]);
            case 19: return x.cheat(n[0], n[1]);
            case 20: return x.odds(n[0], n[1], n[2], n[3]);
            case 21: return x.sight(n[0], n[1]);
            case 22: return x.forget();
            case 23: return x.fits(n[0], n[1], n[2]);
            case 24: return x.race(n[0], n[1]);
            case 25: return x.sorted(n[0], n[1]);
            case 26: return x.evenings(n[0], n[1], n[2]);
            case 27: return x.drawn(n[0]);
            case 28: return x.image(n[0]);
            case 29: return x.back(n[0]);
            case 30: return x.count(n[0]);
            default: return x.status();
        }
    }
}
