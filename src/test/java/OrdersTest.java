/** Promises 8 and 10: orders, run wholly or not at all, and where they stopped. */
public final class OrdersTest {
    public static void main(String[] args) {
        run();
        words();
        ifs();
        sums();
        stops();
        allAsItWas();
        Check.finish("OrdersTest");
    }

    private static void run() {
        TopSays x = Check.with(3, 1, 2);
        Check.due("a step", Check.orders(x, "step 0"), 1);
        Check.cards(x, 0, 2, 1, 3);
        Check.due("claps", x.of(0, 1), 1);
        Check.due("a swap", Check.orders(x, "swap 0 with 2 of 0"), 1);
        Check.cards(x, 0, 3, 1, 2);
        Check.due("a cut", Check.orders(x, "cut 2 of 0"), 1);
        Check.cards(x, 0, 2, 3, 1);
        Check.due("three of them", Check.orders(x, "step 0;swap 1 with 2 of 0;cut 1 of 0"), 3);
        Check.cards(x, 0, 1, 2, 3);
        Check.due("often", Check.orders(x, "cut 1 of 0 times 20"), 20);
        Check.cards(x, 0, 3, 1, 2);
        Check.due("all twelve", Check.orders(x, "cut 1 of 0 times 20" + Check.times(";cut 1 of 0 times 20", 11)), 240);
        Check.due("sixteen are kept", x.count(3), 16);
        Check.due("status", x.status(), 0);
        Check.due("the tape is empty then", x.count(4), 0);
        Check.due("the latest can be undone", x.undo(), 2);
    }

    private static void words() {
        TopSays x = Check.with(2, 1, 3, 4, 5);
        Check.heap(x, 4, 4, 2);
        Check.due("heaps", Check.orders(x, "cut heaps of 0"), 1);
        Check.cards(x, 0, 3, 4, 5, 2, 1);
        Check.due("top", Check.orders(x, "cut top 0 of 0"), 1);
        Check.cards(x, 0, 2, 1, 3, 4, 5);
        Check.due("many", Check.orders(x, "cut many 1 of 0"), 1);
        Check.cards(x, 0, 4, 5, 2, 1, 3);
        Check.due("done, rising", Check.orders(x, "cut 1 of done times 2"), 2);
        Check.cards(x, 0, 5, 2, 1, 3, 4);
        Check.cards(x, 1, 4, 2, 4);
        Check.due("latest: none", Check.orders(x, "cut 1 of 0 if latest=0-1"), 1);
        Check.due("latest: what a step told", Check.orders(x, "step 0;cut latest of 0;step 0 if latest=1;cut latest of 1"), 4);
        Check.due("claps", Check.orders(x, "cut claps 0 of 0"), 1);
        Check.due("no such heap", Check.orders(x, "cut 1 of 0 if top 5=0-1 and claps 5=0-1 and many 2=0-1"), 1);
        Check.due("such a heap", Check.orders(x, "cut 1 of 0 if many 1=3 and claps 1=0 and heaps=2"), 1);
        Check.due("done counts what was run", Check.orders(x, "cut 1 of 0 if 1=2;cut 1 of 0 if done=0;cut 1 of 0 if done=0"), 1);
    }

    private static void ifs() {
        TopSays x = Check.with(2, 1, 3);
        Check.due("not so", Check.orders(x, "step 9 if 1=2"), 0);
        Check.due("broken", Check.orders(x, "step 9 if 1/0=1"), 0);
        Check.due("not broken", Check.orders(x, "cut 1 of 0 if 1=1 or 1/0=1"), 1);
        Check.due("asked each time", Check.orders(x, "cut 1 of 0 times 20 if not top 0=2"), 2);
        Check.cards(x, 0, 2, 1, 3);
        Check.due("asked ahead of the sums", Check.orders(x, "cut 1/0 of 0 if top 0=9"), 0);
        Check.due("steps till the ace", Check.orders(x, "step 0 times 20 if not top 0=1"), 1);
        Check.due("stopped", x.stopped(), -1);
    }

    private static void sums() {
        TopSays x = Check.with(2, 1, 3);
        Check.due("a broken sum", Check.orders(x, "cut 1/0 of 0"), -3);
        Check.due("a broken heap", Check.orders(x, "step 1000*1000*1000*1000"), -3);
        Check.due("a broken second", Check.orders(x, "swap 0 with 1%0 of 0"), -3);
        Check.due("a broken third", Check.orders(x, "swap 0 with 1 of 0/0"), -3);
        Check.due("a broken heap of a cut", Check.orders(x, "cut 1 of 0/0"), -3);
        Check.due("below 0", Check.orders(x, "step 0-1"), -3);
        Check.due("swap of no place", Check.orders(x, "swap 0 with 3 of 0"), -3);
        Check.due("swap of one place", Check.orders(x, "swap 1 with 1 of 0"), -3);
        Check.due("cut none", Check.orders(x, "cut 0 of 0"), -3);
        Check.due("cut too many", Check.orders(x, "cut 4 of 0"), -3);
        Check.due("cut all", Check.orders(x, "cut 3 of 0"), 1);
        Check.due("no such heap", Check.orders(x, "cut 1 of 1"), -3);
        Check.due("each is refused once, by -3", x.count(7), 11);
        Check.due("none by -1", x.count(5), 0);
        Check.due("none by -2", x.count(6), 0);
    }

    private static void stops() {
        TopSays x = Check.with(2, 1, 3);
        Check.due("the third", Check.orders(x, "cut 1 of 0;cut 1 of 0 if 1=2;step 3"), -3);
        Check.due("stopped", x.stopped(), 2);
        Check.due("status", x.status(), -3);
        Check.due("the ace stops it", Check.orders(x, "step 0 times 2"), -3);
        Check.due("stopped", x.stopped(), 0);
        x.step(0);
        Check.due("stopped stays", x.stopped(), 0);
        x.undo();
        Check.due("one that can be", Check.orders(x, "step 0"), 1);
        Check.due("stopped", x.stopped(), -1);
        Check.due("the twelfth", Check.orders(x, "cut 1 of 0" + Check.times(";cut 1 of 0", 10) + ";step 1"), -3);
        Check.due("stopped", x.stopped(), 11);
        Check.due("one that can't be read", Check.orders(x, "x"), -6);
        Check.due("stopped", x.stopped(), -1);
    }

    private static void allAsItWas() {
        TopSays x = Check.with(3, 1, 2);
        Check.heap(x, 2, 1);
        x.step(0);
        x.cut(1, 1);
        Check.due("none of it", Check.orders(x, "step 0;cut 1 of 1;swap 0 with 1 of 1;step 1 times 20"), -3);
        Check.cards(x, 0, 2, 1, 3);
        Check.cards(x, 1, 1, 2);
        Check.due("claps", x.of(0, 1), 1);
        Check.due("last", x.of(0, 2), 3);
        Check.due("what can be undone", x.count(3), 2);
        Check.due("undo", x.undo(), 2);
        Check.due("undo", x.undo(), 0);
        Check.cards(x, 0, 3, 1, 2);
        Check.cards(x, 1, 2, 1);
        for (int i = 0; i < 20; i++) {
            x.cut(0, 1);
        }
        Check.due("beyond what is kept", Check.orders(x, "cut 1 of 1 times 20;cut 1 of 0 times 20;step 5"), -3);
        Check.due("sixteen", x.count(3), 16);
        for (int i = 0; i < 16; i++) {
            Check.due("undo", x.undo(), 2);
        }
        Check.cards(x, 0, 1, 2, 3);
        Check.cards(x, 1, 2, 1);
    }
}
