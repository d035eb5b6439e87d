/** Promises 16, 17, 21 and 26: goes, after, cheat, race. */
public final class PaperTest {
    public static void main(String[] args) {
        goes();
        goesLong();
        goesRound();
        after();
        cheat();
        cheatWithout();
        race();
        nothingIsChanged();
        Check.finish("PaperTest");
    }

    private static void isHow(Counted x, int heap, int how, int behind, int first) {
        Check.due("goes(" + heap + ", 0)", x.goes(heap, 0), how);
        Check.due("goes(" + heap + ", 1)", x.goes(heap, 1), behind);
        Check.due("goes(" + heap + ", 2)", x.goes(heap, 2), first);
    }

    private static void goes() {
        Counted x = Counted.with(3, 1, 2);
        isHow(x, 0, 0, 2, -1);
        x.heap(1, 2);
        isHow(x, 1, 0, 0, -1);
        x.heap(2, 5, 1);
        isHow(x, 2, 1, 1, -1);
        x.heap(9, 1);
        isHow(x, 3, 1, 0, -1);
        x.heap(2, 9, 4, 5, 11, 12, 10, 1, 8, 13, 3, 6, 7);
        isHow(x, 4, 0, 80, -1);
        for (int what : new int[] {-1, 3, Integer.MIN_VALUE, Integer.MAX_VALUE}) {
            Check.due("what " + what, x.goes(0, what), -1);
        }
        for (int heap : new int[] {-1, 5, 6, Integer.MIN_VALUE, Integer.MAX_VALUE}) {
            Check.due("heap " + heap, x.goes(heap, 0), -1);
        }
        Check.due("not refused", x.status(), 0);
        Check.due("not counted", x.count(6), 0);
    }

    private static void goesLong() {
        Counted x = Counted.with(3, 1, 2);
        x.terms(1, 2);
        isHow(x, 0, 0, 2, -1);
        x.terms(1, 1);
        isHow(x, 0, 3, 1, -1);
        x.heap(2, 5, 1);
        isHow(x, 1, 1, 1, -1);
        x.heap(0, 5);
        isHow(x, 2, 2, 1, 0);
        // Under a law that cuts one card each time it is as it was behind thirteen steps.
        Counted y = Counted.under("turns 0;sinks 1;ends if 1=2", 1, 2, 3, 4, 5, 6, 7, 8, 9, 10, 11, 12, 13);
        isHow(y, 0, 2, 13, 0);
        y.terms(1, 13);
        isHow(y, 0, 2, 13, 0);
        y.terms(1, 12);
        isHow(y, 0, 3, 12, -1);
        Counted z = Counted.with(2, 9, 4, 5, 11, 12, 10, 1, 8, 13, 3, 6, 7);
        z.terms(1, 80);
        isHow(z, 0, 0, 80, -1);
        z.terms(1, 79);
        isHow(z, 0, 3, 79, -1);
        z.terms(1, 300);
        isHow(z, 0, 0, 80, -1);
        // Turned and cut by sums of all that is asked, so that it neither ends nor comes round in 300 steps.
        Counted far = Counted.under("turns [top*3+second+last]%[many+1];sinks [third+last]%7;ends if 1=2",
                1, 2, 3, 4, 5, 6, 7, 8, 9, 10, 11, 12, 13);
        Check.due("far", far.goes(0, 0), 3);
        Check.due("at first 200 steps are looked at", far.goes(0, 1), 200);
        far.terms(1, 300);
        Check.due("300 at most", far.goes(0, 1), 300);
    }

    private static void goesRound() {
        Counted x = Counted.with(2, 2);
        isHow(x, 0, 2, 2, 1);
        x.step(0);
        isHow(x, 0, 2, 1, 0);
        x.heap(3, 2, 3);
        // Last belongs to how it lies: 3 2 3 with last 3 is there behind one step.
        isHow(x, 1, 2, 2, 1);
        x.heap(4, 2, 3, 0);
        // 4230 0324(4) 4230(4) 0324(4): the second and the fourth are alike.
        isHow(x, 2, 2, 3, 1);
    }

    private static void after() {
        Counted x = Counted.with(3, 1, 2);
        int[][] rows = {{3, 1, 2}, {2, 1, 3}, {1, 2, 3}, {1, 2, 3}};
        for (int n = 0; n < rows.length; n++) {
            for (int place = 0; place < 3; place++) {
                Check.due("after(0, " + n + ", " + place + ")", x.after(0, n, place), rows[n][place]);
            }
        }
        Check.due("300", x.after(0, 300, 0), 1);
        Check.due("301", x.after(0, 301, 0), -1);
        Check.due("-1", x.after(0, -1, 0), -1);
        Check.due("least", x.after(0, Integer.MIN_VALUE, 0), -1);
        Check.due("greatest", x.after(0, Integer.MAX_VALUE, 0), -1);
        Check.due("place 3", x.after(0, 1, 3), -1);
        Check.due("place -1", x.after(0, 1, -1), -1);
        Check.due("place least", x.after(0, 1, Integer.MIN_VALUE), -1);
        Check.due("heap 1", x.after(1, 0, 0), -1);
        Check.due("heap -1", x.after(-1, 0, 0), -1);
        x.terms(1, 1);
        Check.due("beyond what is looked ahead", x.after(0, 2, 0), 1);
        x.heap(2, 3, 1);
        x.heap(2, 9, 1);
        Check.due("till it sticks", x.after(2, 300, 0), 9);
        Counted y = Counted.under("turns 0;sinks 1;ends if 1=2", 1, 2, 3);
        Check.due("round and round", y.after(0, 299, 0), 3);
        Check.due("round and round", y.after(0, 300, 0), 1);
        Check.due("round and round", y.after(0, 300, 2), 3);
    }

    private static void cheat() {
        Counted x = Counted.with(3, 1, 2);
        Check.due("steps", x.cheat(0, 0), 1);
        Check.due("first place", x.cheat(0, 1), 0);
        Check.due("second place", x.cheat(0, 2), 2);
        x.heap(2, 2, 1);
        Check.due("alike cards are not swapped", x.cheat(1, 0), 1);
        Check.due("first place", x.cheat(1, 1), 1);
        Check.due("second place", x.cheat(1, 2), 2);
        x.heap(2, 0, 1);
        x.step(2);
        x.lies(2, 0, 2, 1);
        Check.due("from last as it is", x.cheat(2, 0), 1);
        Check.due("first place", x.cheat(2, 1), 1);
        Check.due("second place", x.cheat(2, 2), 2);
        x.heap(9, 2, 4, 5, 11, 12, 10, 1, 8, 13, 3, 6, 7);
        Check.due("more than seven cards", x.cheat(3, 0), 80);
        Check.due("first place", x.cheat(3, 1), 0);
        Check.due("second place", x.cheat(3, 2), 1);
        x.terms(1, 79);
        Check.holds("one beyond what is looked ahead does not end", x.cheat(3, 0) < 80);
    }

    private static void cheatWithout() {
        Counted x = Counted.with(5, 6);
        for (int what = 0; what < 3; what++) {
            Check.due("none ends", x.cheat(0, what), -1);
        }
        x.heap(1, 1);
        Check.due("no unlike cards", x.cheat(1, 0), -1);
        x.heap(1);
        Check.due("one card", x.cheat(2, 0), -1);
        x.heap(2, 1);
        Check.due("ends at once", x.cheat(3, 0), 0);
        Check.due("what 3", x.cheat(3, 3), -1);
        Check.due("what -1", x.cheat(3, -1), -1);
        Check.due("heap 4", x.cheat(4, 0), -1);
        Check.due("heap -1", x.cheat(-1, 0), -1);
    }

    private static void race() {
        Counted x = Counted.with(3, 1, 2);
        x.heap(2, 1);
        x.heap(5, 1);
        x.heap(2, 2);
        x.heap(2, 3, 1);
        Check.due("the first", x.race(1, 0), 0);
        Check.due("the second", x.race(0, 1), 1);
        Check.due("both", x.race(0, 4), 2);
        Check.due("the same", x.race(1, 1), 2);
        Check.due("one sticks", x.race(0, 2), 0);
        Check.due("one sticks", x.race(2, 0), 1);
        Check.due("one comes round", x.race(0, 3), 0);
        Check.due("one comes round", x.race(3, 0), 1);
        Check.due("neither", x.race(2, 3), -1);
        Check.due("neither", x.race(2, 2), -1);
        Check.due("no heap", x.race(0, 5), -1);
        Check.due("no heap", x.race(-1, 0), -1);
        Check.due("no heap", x.race(Integer.MAX_VALUE, Integer.MIN_VALUE), -1);
        x.terms(1, 1);
        Check.due("one beyond what is looked ahead", x.race(0, 1), 1);
        Check.due("both beyond", x.race(0, 4), -1);
    }

    private static void nothingIsChanged() {
        Counted x = Counted.with(3, 1, 2);
        x.goes(0, 0);
        x.after(0, 9, 0);
        x.cheat(0, 0);
        x.race(0, 0);
        x.lies(0, 3, 1, 2);
        Check.due("claps", x.of(0, 1), 0);
        Check.due("last", x.of(0, 2), 0);
        Check.due("nothing to undo", x.count(3), 0);
    }
}
