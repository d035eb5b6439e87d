/** Promises 6 and 30 to 33: terms, image, back, count, status. */
public final class KeepingTest {
    public static void main(String[] args) {
        terms();
        images();
        whatIsKept();
        whatIsNotKept();
        refused();
        count();
        status();
        order();
        Check.finish("KeepingTest");
    }

    private static void terms() {
        Counted x = new Counted();
        Check.due("mood", x.terms(0, 9), 0);
        Check.due("mood", x.terms(0, 0), 9);
        Check.due("long", x.terms(1, 300), 200);
        Check.due("long", x.terms(1, 1), 300);
        Check.due("mood 10", x.terms(0, 10), -1);
        Check.due("mood -1", x.terms(0, -1), -1);
        Check.due("long 0", x.terms(1, 0), -1);
        Check.due("long 301", x.terms(1, 301), -1);
        Check.due("term 2", x.terms(2, 1), -1);
        Check.due("term -1", x.terms(-1, 1), -1);
        Check.due("least", x.terms(Integer.MIN_VALUE, Integer.MIN_VALUE), -1);
        Check.due("greatest", x.terms(Integer.MAX_VALUE, Integer.MAX_VALUE), -1);
        Check.due("status", x.status(), -1);
        Check.due("count(5)", x.count(5), 8);
        Check.due("count(11)", x.count(11), 0);
        Check.due("count(12)", x.count(12), 1);
        Check.due("the same again", x.terms(1, 1), 1);
        Check.due("status", x.status(), 0);
    }

    private static void images() {
        Counted x = Counted.with(3, 1, 2);
        Check.due("not kept", x.back(0), -2);
        Check.due("not kept", x.back(1), -2);
        Check.due("image", x.image(0), 0);
        x.step(0);
        Check.due("image", x.image(1), 0);
        x.step(0);
        Check.due("back", x.back(1), 0);
        x.lies(0, 2, 1, 3);
        Check.due("claps", x.of(0, 1), 1);
        Check.due("last", x.of(0, 2), 3);
        Check.due("back", x.back(0), 0);
        x.lies(0, 3, 1, 2);
        Check.due("images stay", x.back(1), 0);
        x.lies(0, 2, 1, 3);
        x.cut(0, 1);
        Check.due("an image is no more than it was", x.back(1), 0);
        x.lies(0, 2, 1, 3);
        Check.due("kept anew", x.image(0), 0);
        x.back(0);
        x.lies(0, 2, 1, 3);
    }

    private static void whatIsKept() {
        Counted x = Counted.with(3, 1, 2);
        x.law("turns 1");
        x.force(0);
        x.sight(1, 2);
        x.terms(0, 4);
        x.terms(1, 30);
        x.image(1);
        x.heap(2, 1);
        x.law("turns 2");
        x.force(1);
        x.sight(2, 2);
        x.terms(0, 5);
        x.terms(1, 31);
        Check.due("back", x.back(1), 0);
        int[] counts = {1, 1, 1, 0, 0, 0, 0, 0, 0, 0, 0, 4, 30};
        for (int what = 0; what < counts.length; what++) {
            Check.due("count(" + what + ") behind back", x.count(what), counts[what]);
        }
        Check.due("the law", x.of(0, 5), 1);
        Check.due("heap 1 is gone", x.of(1, 0), -1001);
        Check.due("the next heap", x.heap(5, 4), 1);
        x.lies(1, 5, 4);
        Check.due("the next law", x.law("turns 7"), 1);
        x.force(1);
        Check.due("is its own", x.of(0, 5), 7);
        x.forget();
        x.sight(0, 9);
        x.heap(1);
        Check.due("back", x.back(1), 0);
        Check.due("sights", x.count(1), 1);
        x.force(-1);
        Check.due("the sight", x.fits(0, -1, 0), 1);
    }

    private static void whatIsNotKept() {
        Counted x = Counted.with(3, 1, 2);
        x.image(0);
        x.cut(0, 9);
        x.step(8);
        x.law("turns x");
        x.orders("cut 1 of 0;step 7");
        x.cut(0, 1);
        x.feed(1, 2, 3, 4, 5);
        x.evenings(0, 0, 1);
        Check.due("back", x.back(0), 0);
        Check.due("the tape", x.count(4), 20);
        Check.due("where orders stopped", x.stopped(), 1);
        Check.due("refused by -1", x.count(5), 1);
        Check.due("refused by -2", x.count(6), 1);
        Check.due("refused by -3", x.count(7), 1);
        Check.due("refused by -6", x.count(9), 1);
        Check.due("nothing to undo", x.count(3), 0);
        Check.due("the evenings", x.drawn(0), 1);
        x.end(0);
        x.law("turns x");
        x.back(0);
        Check.due("fault", x.fault(), 6);
    }

    private static void refused() {
        Counted x = new Counted();
        for (int k : new int[] {-1, 2, Integer.MIN_VALUE, Integer.MAX_VALUE}) {
            Check.due("image " + k, x.image(k), -1);
            Check.due("status", x.status(), -1);
            Check.due("back " + k, x.back(k), -1);
        }
        Check.due("count(5)", x.count(5), 8);
        Check.due("not kept", x.back(1), -2);
        Check.due("status", x.status(), -2);
        Check.due("count(6)", x.count(6), 1);
        Check.due("an empty table", x.image(1), 0);
        Check.due("status", x.status(), 0);
        x.heap(1);
        Check.due("back", x.back(1), 0);
        Check.due("no heaps", x.count(0), 0);
        Check.due("the other was not kept", x.back(0), -2);
    }

    private static void count() {
        Counted x = Counted.with(3, 1, 2);
        for (int what : new int[] {-1, 13, Integer.MIN_VALUE, Integer.MAX_VALUE}) {
            Check.due("count(" + what + ")", x.count(what), -1);
        }
        x.cut(0, 1);
        x.feed(0, 0, 0, 0, 0);
        x.sight(0, 1);
        Check.due("heaps", x.count(0), 1);
        Check.due("sights", x.count(1), 1);
        Check.due("laws", x.count(2), 0);
        Check.due("undo", x.count(3), 1);
        Check.due("tape", x.count(4), 20);
        Check.due("law in force", x.count(10), -1);
    }

    private static void status() {
        Counted x = Counted.with(3, 1, 2);
        Check.due("step of none", x.step(3), -2);
        x.feed(0, 0, 0, 0, 0);
        x.end(50);
        x.of(9, 9);
        x.fault();
        x.stopped();
        x.goes(9, 0);
        x.after(9, 0, 0);
        x.longest(0, 0);
        x.orderly(0, 0);
        x.to(9, 0, 0);
        x.cheat(9, 0);
        x.odds(9, 0, 0, 0);
        x.forget();
        x.fits(9, 0, 0);
        x.race(9, 9);
        x.sorted(9, 0);
        x.drawn(0);
        x.count(99);
        Check.due("the others leave it", x.status(), -2);
        for (int what = 5; what < 10; what++) {
            Check.due("and are not counted", x.count(what), what == 6 ? 1 : 0);
        }
        x.end(0);
        Check.due("heap", x.heap(), -6);
        Check.due("status", x.status(), -6);
        x.cut(0, 1);
        Check.due("status", x.status(), 0);
        x.step(9);
        x.undo();
        Check.due("status", x.status(), 0);
        x.undo();
        Check.due("status", x.status(), -3);
        x.evenings(0, 1, 1);
        Check.due("status", x.status(), 0);
        x.undo();
        x.sight(1, 1);
        Check.due("status", x.status(), 0);
        x.undo();
        x.force(-1);
        Check.due("status", x.status(), 0);
        x.undo();
        x.orders("cut 1 of 0 if 1=2");
        Check.due("status", x.status(), 0);
        x.undo();
        x.law("ends");
        Check.due("status", x.status(), 0);
    }

    /** The first refusal in the order -1, -2, -3, -5, -6, but where the document tells another one. */
    private static void order() {
        Counted x = Counted.with(3, 1, 2);
        Check.due("swap: -2 ahead of -1", x.swap(9, -1, -1), -2);
        Check.due("cut: -2 ahead of -1", x.cut(9, -1), -2);
        Check.due("evenings: -2 ahead of -1", x.evenings(9, -1, -1), -2);
        Check.due("back: -1 ahead of -2", x.back(9), -1);
        for (int i = 0; i < 8; i++) {
            x.sight(0, 1);
        }
        Check.due("sight: -1 ahead of -5", x.sight(-1, 1), -1);
        for (int i = 0; i < 6; i++) {
            x.heap(1);
        }
        Check.due("heap: -5 ahead of -6", x.heap(), -5);
        Check.due("step: -2 ahead of -3", x.step(9), -2);
    }
}
