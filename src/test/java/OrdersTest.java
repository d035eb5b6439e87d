/** Promises 8 and 10: orders, run wholly or not at all, and where they stopped. */
public final class OrdersTest {
    public static void main(String[] args) {
        run();
        words();
        ifs();
        sums();
        stops();
        allAsItWas();
        Check.finish("OrdersTest");
    }

    private static void run() {
        Counted x = Counted.with(3, 1, 2);
        Check.due("a step", x.orders("step 0"), 1);
        x.lies(0, 2, 1, 3);
        Check.due("claps", x.of(0, 1), 1);
        Check.due("a swap", x.orders("swap 0 with 2 of 0"), 1);
        x.lies(0, 3, 1, 2);
        Check.due("a cut", x.orders("cut 2 of 0"), 1);
        x.lies(0, 2, 3, 1);
        Check.due("three of them", x.orders("step 0;swap 1 with 2 of 0;cut 1 of 0"), 3);
        x.lies(0, 1, 2, 3);
        Check.due("often", x.orders("cut 1 of 0 times 20"), 20);
        x.lies(0, 3, 1, 2);
        Check.due("all twelve", x.orders("cut 1 of 0 times 20" + Check.times(";cut 1 of 0 times 20", 11)), 240);
        Check.due("sixteen are kept", x.count(3), 16);
        Check.due("status", x.status(), 0);
        Check.due("the tape is empty then", x.count(4), 0);
        Check.due("the latest can be undone", x.undo(), 2);
    }

    private static void words() {
        Counted x = Counted.with(2, 1, 3, 4, 5);
        x.heap(4, 4, 2);
        Check.due("heaps", x.orders("cut heaps of 0"), 1);
        x.lies(0, 3, 4, 5, 2, 1);
        Check.due("top", x.orders("cut top 0 of 0"), 1);
        x.lies(0, 2, 1, 3, 4, 5);
        Check.due("many", x.orders("cut many 1 of 0"), 1);
        x.lies(0, 4, 5, 2, 1, 3);
        Check.due("done, rising", x.orders("cut 1 of done times 2"), 2);
        x.lies(0, 5, 2, 1, 3, 4);
        x.lies(1, 4, 2, 4);
        Check.due("latest: none", x.orders("cut 1 of 0 if latest=0-1"), 1);
        Check.due("latest: what a step told", x.orders("step 0;cut latest of 0;step 0 if latest=1;cut latest of 1"), 4);
        Check.due("claps", x.orders("cut claps 0 of 0"), 1);
        Check.due("no such heap", x.orders("cut 1 of 0 if top 5=0-1 and claps 5=0-1 and many 2=0-1"), 1);
        Check.due("such a heap", x.orders("cut 1 of 0 if many 1=3 and claps 1=0 and heaps=2"), 1);
        Check.due("done counts what was run", x.orders("cut 1 of 0 if 1=2;cut 1 of 0 if done=0;cut 1 of 0 if done=0"), 1);
    }

    private static void ifs() {
        Counted x = Counted.with(2, 1, 3);
        Check.due("not so", x.orders("step 9 if 1=2"), 0);
        Check.due("broken", x.orders("step 9 if 1/0=1"), 0);
        Check.due("not broken", x.orders("cut 1 of 0 if 1=1 or 1/0=1"), 1);
        Check.due("asked each time", x.orders("cut 1 of 0 times 20 if not top 0=2"), 2);
        x.lies(0, 2, 1, 3);
        Check.due("asked ahead of the sums", x.orders("cut 1/0 of 0 if top 0=9"), 0);
        Check.due("steps till the ace", x.orders("step 0 times 20 if not top 0=1"), 1);
        Check.due("stopped", x.stopped(), -1);
    }

    private static void sums() {
        Counted x = Counted.with(2, 1, 3);
        Check.due("a broken sum", x.orders("cut 1/0 of 0"), -3);
        Check.due("a broken heap", x.orders("step 1000*1000*1000*1000"), -3);
        Check.due("a broken second", x.orders("swap 0 with 1%0 of 0"), -3);
        Check.due("a broken third", x.orders("swap 0 with 1 of 0/0"), -3);
        Check.due("a broken heap of a cut", x.orders("cut 1 of 0/0"), -3);
        Check.due("below 0", x.orders("step 0-1"), -3);
        Check.due("swap of no place", x.orders("swap 0 with 3 of 0"), -3);
        Check.due("swap of one place", x.orders("swap 1 with 1 of 0"), -3);
        Check.due("cut none", x.orders("cut 0 of 0"), -3);
        Check.due("cut too many", x.orders("cut 4 of 0"), -3);
        Check.due("cut all", x.orders("cut 3 of 0"), 1);
        Check.due("no such heap", x.orders("cut 1 of 1"), -3);
        Check.due("each is refused once, by -3", x.count(7), 11);
        Check.due("none by -1", x.count(5), 0);
        Check.due("none by -2", x.count(6), 0);
    }

    private static void stops() {
        Counted x = Counted.with(2, 1, 3);
        Check.due("the third", x.orders("cut 1 of 0;cut 1 of 0 if 1=2;step 3"), -3);
        Check.due("stopped", x.stopped(), 2);
        Check.due("status", x.status(), -3);
        Check.due("the ace stops it", x.orders("step 0 times 2"), -3);
        Check.due("stopped", x.stopped(), 0);
        x.step(0);
        Check.due("stopped stays", x.stopped(), 0);
        x.undo();
        Check.due("one that can be", x.orders("step 0"), 1);
        Check.due("stopped", x.stopped(), -1);
        Check.due("the twelfth", x.orders("cut 1 of 0" + Check.times(";cut 1 of 0", 10) + ";step 1"), -3);
        Check.due("stopped", x.stopped(), 11);
        Check.due("one that can't be read", x.orders("x"), -6);
        Check.due("stopped", x.stopped(), -1);
    }

    private static void allAsItWas() {
        Counted x = Counted.with(3, 1, 2);
        x.heap(2, 1);
        x.step(0);
        x.cut(1, 1);
        Check.due("none of it", x.orders("step 0;cut 1 of 1;swap 0 with 1 of 1;step 1 times 20"), -3);
        x.lies(0, 2, 1, 3);
        x.lies(1, 1, 2);
        Check.due("claps", x.of(0, 1), 1);
        Check.due("last", x.of(0, 2), 3);
        Check.due("what can be undone", x.count(3), 2);
        Check.due("undo", x.undo(), 2);
        Check.due("undo", x.undo(), 0);
        x.lies(0, 3, 1, 2);
        x.lies(1, 2, 1);
        for (int i = 0; i < 20; i++) {
            x.cut(0, 1);
        }
        Check.due("beyond what is kept", x.orders("cut 1 of 1 times 20;cut 1 of 0 times 20;step 5"), -3);
        Check.due("sixteen", x.count(3), 16);
        for (int i = 0; i < 16; i++) {
            Check.due("undo", x.undo(), 2);
        }
        x.lies(0, 1, 2, 3);
        x.lies(1, 2, 1);
    }
}
