import java.lang.reflect.Constructor;
import java.lang.reflect.Field;
import java.lang.reflect.Method;
import java.lang.reflect.Modifier;
import java.util.Map;
import java.util.function.ToIntFunction;

/** What stands ahead of the promises: what it is, the public face, the constants, by what calls are REFUSED. */
public final class EdgesOfFaceTest {
    private static final int LEAST = Integer.MIN_VALUE;
    private static final int GREATEST = Integer.MAX_VALUE;

    public static void main(String[] args) {
        heapsThatTurnThemselves();
        laws();
        orders();
        stepsSwapsCuts();
        howLong();
        longestOrders();
        whatLeads();
        whichTwoToSwap();
        chances();
        ordersThatFit();
        whichEndsSooner();
        fewestTurns();
        goneBackTo();
        theFace();
        theClass();
        theConstants();
        refusedByANumber();
        refusedByNoSuch();
        refusedByWhatStands();
        refusedWithoutRoom();
        refusedByATextOrARow();
        refusedByTheFirst();
        Check.finish("EdgesOfFaceTest");
    }

    private static void heapsThatTurnThemselves() {
        Edge.says(12, "Heaps of cards that turn themselves: as many as the top one says are turned over as a block, again and "
                + "again, till the ace comes up;");
        int[][] rows = {{3, 1, 4, 5, 2}, {4, 1, 3, 5, 2}, {5, 3, 1, 4, 2}, {2, 4, 1, 3, 5}, {4, 2, 1, 3, 5}, {3, 1, 2, 4, 5},
            {2, 1, 3, 4, 5}, {1, 2, 3, 4, 5}};
        Counted x = Counted.with(rows[0]);
        for (int i = 1; i < rows.length; i++) {
            Check.due("not yet", x.of(0, 3), 0);
            Check.due("step " + i, x.step(0), i);
            x.lies(0, rows[i]);
            Check.due("how many were turned", x.of(0, 2), rows[i - 1][0]);
        }
        Check.due("the ace", x.of(0, 3), 1);
        Check.due("no more", x.step(0), -3);
    }

    private static void laws() {
        Edge.says(5, "laws in a language of how many are turned, how many put beneath, when it ends;");
        Counted x = Counted.under("turns 2;sinks 2;ends if top=5", 4, 3, 5, 6);
        Check.due("turned", x.of(0, 5), 2);
        Check.due("put beneath", x.of(0, 6), 2);
        Check.due("not yet", x.of(0, 3), 0);
        Check.due("a step", x.step(0), 1);
        // Turned 3 4 5 6, put beneath 5 6 3 4.
        x.lies(0, 5, 6, 3, 4);
        Check.due("it has ended", x.of(0, 3), 1);
    }

    private static void orders() {
        Edge.says(8, "orders in a second language that are run wholly or not at all;");
        Counted x = Counted.with(3, 1, 2);
        Check.due("wholly", x.orders("step 0;cut 1 of 0"), 2);
        x.lies(0, 1, 3, 2);
        Check.due("not at all", x.orders("swap 0 with 2 of 0;cut 1 of 0;step 7"), -3);
        x.lies(0, 1, 3, 2);
        Check.due("claps", x.of(0, 1), 1);
    }

    private static void stepsSwapsCuts() {
        Edge.says(14, "steps, swaps, cuts;");
        Counted x = Counted.with(3, 1, 2);
        Check.due("a step", x.step(0), 1);
        x.lies(0, 2, 1, 3);
        Check.due("a swap", x.swap(0, 0, 2), 3);
        x.lies(0, 3, 1, 2);
        Check.due("a cut", x.cut(0, 2), 2);
        x.lies(0, 2, 3, 1);
    }

    private static void howLong() {
        Edge.says(16, "how long a heap goes on, whether it ends, sticks or comes round,");
        int[][] heaps = {{3, 1, 2}, {2, 3, 9}, {2, 2}};
        for (int how = 0; how < 3; how++) {
            Counted x = Counted.with(heaps[how]);
            Check.due("how", x.goes(0, 0), how);
            Check.due("behind two steps", x.goes(0, 1), 2);
        }
    }

    private static void longestOrders() {
        Edge.says(18, "the longest orders of so many cards,");
        // 1 2 3, 1 3 2 have ended; 2 1 3, 3 2 1 end behind one step, 2 3 1 (by 3 2 1), 3 1 2 (by 2 1 3) behind two.
        Counted x = new Counted();
        int[] due = {2, 2, 2, 3, 1, -1};
        for (int what = 0; what < due.length; what++) {
            Check.due("longest(3, " + what + ")", x.longest(3, what), due[what]);
        }
    }

    private static void whatLeads() {
        Edge.says(20, "what leads to a heap,");
        Counted x = Counted.with(2, 1, 3);
        Check.due("3 1 2 alone", x.to(0, -1, 0), 1);
        Check.due("its top", x.to(0, 0, 0), 3);
        Check.due("its second", x.to(0, 0, 1), 1);
    }

    private static void whichTwoToSwap() {
        Edge.says(21, "which two to swap so that it goes on longest,");
        // Of 3 2 1: 2 3 1 goes on for two steps, so does 3 1 2, 1 2 3 has ended.
        Counted x = Counted.with(3, 2, 1);
        Check.due("steps", x.cheat(0, 0), 2);
        Check.due("the first place", x.cheat(0, 1), 0);
        Check.due("the second place", x.cheat(0, 2), 1);
    }

    private static void chances() {
        Edge.says(22, "chances by what is seen of the top,");
        // The 2 is seen: 2 1 3 ends behind one step, 2 3 1 behind two.
        Counted x = Counted.with(2, 3, 1);
        for (int c = 1; c <= 2; c++) {
            Check.due("one", x.odds(0, 1, c, 0), 1);
            Check.due("of two", x.odds(0, 1, c, 1), 2);
        }
    }

    private static void ordersThatFit() {
        Edge.says(25, "all orders that fit what came up,");
        Counted x = Counted.with(1, 2, 3);
        x.sight(0, 2);
        x.sight(1, 3);
        // 2 1 3 becomes 1 2 3, 2 3 1 becomes 3 2 1.
        Check.due("one", x.fits(0, -1, 0), 1);
        int[] row = {2, 3, 1};
        for (int place = 0; place < 3; place++) {
            Check.due("place " + place, x.fits(0, 0, place), row[place]);
        }
    }

    private static void whichEndsSooner() {
        Edge.says(26, "which of two ends sooner,");
        Counted x = Counted.with(3, 1, 2);
        x.heap(2, 1, 3);
        Check.due("the second", x.race(0, 1), 1);
        Check.due("the first", x.race(1, 0), 0);
    }

    private static void fewestTurns() {
        Edge.says(27, "the fewest turns by which one is put in order;");
        // 4 1 2 3 by one block is 1 4 2 3, 2 1 4 3 or 3 2 1 4; by 4, 3 it is 3 2 1 4, 1 2 3 4.
        Counted x = Counted.with(4, 1, 2, 3);
        Check.due("two", x.sorted(0, 0), 2);
        Check.due("all four", x.sorted(0, 1), 4);
        Check.due("then three", x.sorted(0, 2), 3);
    }

    private static void goneBackTo() {
        Edge.says(31, "steps undone, evenings by draws; all gone back to.");
        Counted x = Counted.with(3, 1, 2);
        x.image(0);
        x.step(0);
        x.step(0);
        Check.due("a step undone", x.undo(), 0);
        x.lies(0, 2, 1, 3);
        // From 5 the draws are 17860 % 3 = 1, 711868 % 2 = 0: 2 3 1, then 3 2 1, which ends behind one step.
        Check.due("an evening", x.evenings(0, 5, 1), 1);
        Check.due("its steps", x.drawn(0), 1);
        Check.due("its top at the beginning", x.drawn(2), 3);
        Check.due("its second", x.drawn(3), 2);
        Check.due("back", x.back(0), 0);
        x.lies(0, 3, 1, 2);
        Check.due("claps", x.of(0, 1), 0);
    }

    private static void theFace() {
        int promise = 2;
        for (Map.Entry<String, Integer> due : Face.methods().entrySet()) {
            Edge.says(promise, "## Promise " + promise + ": " + due.getKey());
            Class<?>[] numbers = new Class<?>[due.getValue()];
            java.util.Arrays.fill(numbers, int.class);
            try {
                Method method = TopSays.class.getDeclaredMethod(due.getKey(), numbers);
                Check.holds(method + " is public", Modifier.isPublic(method.getModifiers()));
                Check.holds(method + " is of an object", !Modifier.isStatic(method.getModifiers()));
                Check.holds(method + " answers an int", method.getReturnType() == int.class);
            } catch (NoSuchMethodException e) {
                Check.holds("there is " + due.getKey() + " of " + due.getValue() + " numbers", false);
            }
            promise++;
        }
        Check.due("the last promise", promise - 1, 33);
    }

    private static void theClass() {
        Edge.says(1, "public final class TopSays {");
        int signs = TopSays.class.getModifiers();
        Check.holds("public", Modifier.isPublic(signs));
        Check.holds("final", Modifier.isFinal(signs));
        Check.due("no package", TopSays.class.getName().indexOf('.'), -1);
        Edge.says(1, "public TopSays();");
        Constructor<?>[] all = TopSays.class.getConstructors();
        Check.due("public constructors", all.length, 1);
        Check.due("what it takes", all.length == 0 ? -1 : all[0].getParameterCount(), 0);
    }

    private static void theConstants() {
        Edge.says(1, "The constants: NONE = -1: There is none.");
        Check.due("NONE", TopSays.NONE, -1);
        Edge.says(1, "public static final int NONE = -1;");
        try {
            Field field = TopSays.class.getField("NONE");
            Check.holds("an int", field.getType() == int.class);
            Check.holds("static and final", Modifier.isStatic(field.getModifiers()) && Modifier.isFinal(field.getModifiers()));
        } catch (NoSuchFieldException e) {
            Check.holds("there is NONE", false);
        }
    }

    /** A call on a table that is refused by a code: told by its answer, by status() and by count(). */
    private static void refused(Counted x, String name, int code, ToIntFunction<Counted> call) {
        int[] codes = {-1, -2, -3, -5, -6};
        int[] before = new int[5];
        for (int i = 0; i < 5; i++) {
            before[i] = x.count(5 + i);
        }
        Check.due(name, call.applyAsInt(x), code);
        Check.due("status behind " + name, x.status(), code);
        for (int i = 0; i < 5; i++) {
            Check.due("count(" + (5 + i) + ") behind " + name, x.count(5 + i), before[i] + (codes[i] == code ? 1 : 0));
        }
    }

    private static void refusedByANumber() {
        Edge.says(33, "REFUSED by: -1 a number that can't be;");
        Counted x = Scene.rich();
        for (int number : new int[] {-1, LEAST, 99999999, GREATEST}) {
            refused(x, "terms(0, " + number + ")", -1, t -> t.terms(0, number));
            refused(x, "terms(" + number + ", 1)", -1, t -> t.terms(number, 1));
            refused(x, "swap(0, 0, " + number + ")", -1, t -> t.swap(0, 0, number));
            refused(x, "cut(0, " + number + ")", -1, t -> t.cut(0, number));
            refused(x, "sight(" + number + ", 1)", -1, t -> t.sight(number, 1));
            refused(x, "evenings(0, " + number + ", 1)", -1, t -> t.evenings(0, number, 1));
            refused(x, "image(" + number + ")", -1, t -> t.image(number));
            refused(x, "back(" + number + ")", -1, t -> t.back(number));
        }
    }

    private static void refusedByNoSuch() {
        Edge.says(33, "-2 there is no such HEAP, LAW, IMAGE;");
        Counted x = Scene.rich();
        for (int number : new int[] {-2, LEAST, 3, GREATEST}) {
            refused(x, "step(" + number + ")", -2, t -> t.step(number));
            refused(x, "swap(" + number + ", 0, 1)", -2, t -> t.swap(number, 0, 1));
            refused(x, "cut(" + number + ", 1)", -2, t -> t.cut(number, 1));
            refused(x, "evenings(" + number + ", 0, 1)", -2, t -> t.evenings(number, 0, 1));
            refused(x, "force(" + number + ")", -2, t -> t.force(number));
        }
        refused(x, "back(1)", -2, t -> t.back(1));
    }

    private static void refusedByWhatStands() {
        Edge.says(33, "-3 it can't be by what stands;");
        Counted x = Counted.with(1, 2);
        x.heap(3, 2);
        refused(x, "step() of what has ended", -3, t -> t.step(0));
        refused(x, "step() of what sticks", -3, t -> t.step(1));
        refused(x, "undo() of nothing", -3, t -> t.undo());
        refused(x, "orders() one of which can't be", -3, t -> t.orders("cut 1 of 0;step 1"));
    }

    private static void refusedWithoutRoom() {
        Edge.says(33, "-5 no room;");
        refused(Scene.sixHeaps(), "heap()", -5, t -> t.heap());
        refused(Scene.sixLaws(), "law()", -5, t -> t.law());
        refused(Scene.eightSights(), "sight()", -5, t -> t.sight(0, 1));
    }

    private static void refusedByATextOrARow() {
        Edge.says(33, "-6 a TEXT, a ROW that can't be.");
        refused(new Counted(), "heap() of nothing", -6, t -> t.heap());
        refused(new Counted(), "heap() of a card 14", -6, t -> t.heap(14));
        refused(new Counted(), "law() of nothing", -6, t -> t.law());
        refused(new Counted(), "law() of orders", -6, t -> t.law("step 0"));
        refused(new Counted(), "orders() of nothing", -6, t -> t.orders());
        refused(new Counted(), "orders() of a law", -6, t -> t.orders("ends"));
    }

    private static void refusedByTheFirst() {
        Edge.says(33, "The first of these in that order.");
        refused(Scene.nothing(), "back(2), and it was not kept", -1, t -> t.back(2));
        refused(Scene.eightSights(), "sight(0, 14), and no room", -1, t -> t.sight(0, 14));
        refused(Scene.sixHeaps(), "heap() of a card 14, and no room", -5, t -> {
            t.end(0);
            return t.heap(14);
        });
        refused(Scene.sixLaws(), "law() that can't be read, and no room", -5, t -> {
            t.end(0);
            return t.law("x");
        });
        // These three tell another order.
        refused(Scene.rich(), "swap(9, 0, 0)", -2, t -> t.swap(9, 0, 0));
        refused(Scene.rich(), "cut(9, 0)", -2, t -> t.cut(9, 0));
        refused(Scene.rich(), "evenings(9, -1, 0)", -2, t -> t.evenings(9, -1, 0));
    }
}
