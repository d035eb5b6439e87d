/** Promises 12 to 15: step, swap, cut, undo. */
public final class ChangesTest {
    public static void main(String[] args) {
        step();
        joker();
        swap();
        cut();
        undo();
        undoIsCleared();
        undoIsKept();
        Check.finish("ChangesTest");
    }

    private static void step() {
        Counted x = Counted.with(3, 5, 2, 4, 1);
        Check.due("step", x.step(0), 1);
        x.lies(0, 2, 5, 3, 4, 1);
        Check.due("last", x.of(0, 2), 3);
        Check.due("step", x.step(0), 2);
        x.lies(0, 5, 2, 3, 4, 1);
        Check.due("step", x.step(0), 3);
        x.lies(0, 1, 4, 3, 2, 5);
        Check.due("ended", x.step(0), -3);
        Check.due("status", x.status(), -3);
        Check.due("claps stay", x.of(0, 1), 3);
        x.heap(3, 1);
        Check.due("stuck", x.step(1), -3);
        Check.due("count(7)", x.count(7), 2);
        Check.due("no such heap", x.step(2), -2);
        Check.due("no such heap", x.step(-1), -2);
        Check.due("no such heap", x.step(Integer.MIN_VALUE), -2);
        Check.due("no such heap", x.step(Integer.MAX_VALUE), -2);
        Check.due("count(6)", x.count(6), 4);
        Counted y = Counted.with(13, 2, 3, 4, 5, 6, 7, 8, 9, 10, 11, 12, 1);
        Check.due("thirteen", y.step(0), 1);
        y.lies(0, 1, 12, 11, 10, 9, 8, 7, 6, 5, 4, 3, 2, 13);
        Check.due("last", y.of(0, 2), 13);
    }

    private static void joker() {
        Counted x = Counted.with(3, 2, 0, 1);
        x.step(0);
        x.lies(0, 0, 2, 3, 1);
        Check.due("it turns as many as were turned last", x.of(0, 5), 3);
        x.step(0);
        x.lies(0, 3, 2, 0, 1);
        Counted y = Counted.with(0, 1);
        Check.due("a joker that turns none", y.step(0), 1);
        y.lies(0, 0, 1);
        Check.due("again", y.step(0), 2);
    }

    private static void swap() {
        Counted x = Counted.with(3, 1, 2);
        Check.due("swap", x.swap(0, 0, 2), 2);
        x.lies(0, 2, 1, 3);
        Check.due("swap", x.swap(0, 2, 1), 2);
        x.lies(0, 2, 3, 1);
        Check.due("claps", x.of(0, 1), 0);
        Check.due("one place twice", x.swap(0, 1, 1), -1);
        Check.due("status", x.status(), -1);
        Check.due("no place", x.swap(0, -1, 1), -1);
        Check.due("no place", x.swap(0, 0, 3), -1);
        Check.due("no place", x.swap(0, 3, 0), -1);
        Check.due("no place", x.swap(0, Integer.MIN_VALUE, Integer.MAX_VALUE), -1);
        Check.due("count(5)", x.count(5), 5);
        Check.due("no heap is ahead", x.swap(1, 1, 1), -2);
        Check.due("no heap is ahead", x.swap(-1, 9, 9), -2);
        Check.due("count(6)", x.count(6), 2);
        x.lies(0, 2, 3, 1);
        x.heap(5, 5);
        Check.due("alike cards may be swapped", x.swap(1, 0, 1), 5);
        Check.due("and undone", x.undo(), 1);
    }

    private static void cut() {
        Counted x = Counted.with(3, 1, 2);
        x.step(0);
        Check.due("cut", x.cut(0, 1), 1);
        x.lies(0, 1, 3, 2);
        Check.due("last stays", x.of(0, 2), 3);
        Check.due("claps stay", x.of(0, 1), 1);
        Check.due("cut", x.cut(0, 2), 2);
        x.lies(0, 2, 1, 3);
        Check.due("all", x.cut(0, 3), 2);
        x.lies(0, 2, 1, 3);
        Check.due("none", x.cut(0, 0), -1);
        Check.due("too many", x.cut(0, 4), -1);
        Check.due("below", x.cut(0, -1), -1);
        Check.due("least", x.cut(0, Integer.MIN_VALUE), -1);
        Check.due("greatest", x.cut(0, Integer.MAX_VALUE), -1);
        Check.due("count(5)", x.count(5), 5);
        Check.due("no heap is ahead", x.cut(1, 0), -2);
        Check.due("status", x.status(), -2);
    }

    private static void undo() {
        Counted x = Counted.with(3, 1, 2);
        Check.due("nothing yet", x.undo(), -3);
        Check.due("status", x.status(), -3);
        x.step(0);
        x.swap(0, 0, 1);
        x.cut(0, 2);
        x.orders("cut 1 of 0;swap 1 with 2 of 0");
        Check.due("five", x.count(3), 5);
        Check.due("swap of orders", x.undo(), 1);
        Check.due("cut of orders", x.undo(), 2);
        Check.due("cut", x.undo(), 2);
        x.lies(0, 1, 2, 3);
        Check.due("swap", x.undo(), 1);
        Check.due("step", x.undo(), 0);
        x.lies(0, 3, 1, 2);
        Check.due("claps", x.of(0, 1), 0);
        Check.due("last", x.of(0, 2), 0);
        Check.due("nothing more", x.undo(), -3);
        Check.due("count(7)", x.count(7), 2);
        for (int i = 0; i < 17; i++) {
            x.cut(0, 1);
            Check.due("how many", x.count(3), Math.min(16, i + 1));
        }
        for (int i = 0; i < 16; i++) {
            Check.due("undo " + i, x.undo(), 2);
        }
        x.lies(0, 1, 2, 3);
        Check.due("the seventeenth", x.undo(), -3);
    }

    private static void undoIsCleared() {
        Counted x = Counted.with(3, 1, 2);
        x.cut(0, 1);
        x.heap(1);
        Check.due("by heap()", x.undo(), -3);
        x.cut(0, 1);
        x.terms(0, 0);
        Check.due("by terms()", x.undo(), -3);
        x.cut(0, 1);
        x.terms(1, 200);
        Check.due("by terms()", x.count(3), 0);
        x.image(0);
        x.cut(0, 1);
        x.back(0);
        Check.due("by back()", x.undo(), -3);
    }

    private static void undoIsKept() {
        Counted x = Counted.with(3, 1, 2);
        x.cut(0, 1);
        x.heap(14);
        x.terms(0, 10);
        x.terms(2, 1);
        x.back(1);
        x.back(5);
        x.image(0);
        x.law("turns 1");
        x.force(0);
        x.sight(0, 1);
        x.forget();
        x.evenings(0, 1, 3);
        x.swap(0, 0, 0);
        x.cut(0, 9);
        x.step(4);
        x.orders("step 4");
        Check.due("one", x.count(3), 1);
        Check.due("undo", x.undo(), 2);
        x.lies(0, 3, 1, 2);
    }
}
