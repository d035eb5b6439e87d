import java.util.function.ToIntFunction;

/** The edges of promises 6, 23, 24 and 30 to 33: terms, sight, forget, image, back, count, status. */
public final class EdgesOfKeepingTest {
    private static final int LEAST = Integer.MIN_VALUE;
    private static final int GREATEST = Integer.MAX_VALUE;

    public static void main(String[] args) {
        mood();
        howLong();
        termsTellWhatWas();
        termsThatCannotBe();
        sightsAtMost();
        sightSteps();
        sightCards();
        sightThatCannotBe();
        sightWithoutRoom();
        sightFirstRefusal();
        forgetNone();
        forgetAll();
        imageNumbers();
        imageThatCannotBe();
        imageAgain();
        imageOfNothing();
        imageKeepsAll();
        imageKeepsWhatWasSeen();
        imageDoesNotKeep();
        backToOneThatWasNotKept();
        backThatCannotBe();
        backFirstRefusal();
        backLeavesImages();
        backLeavesNothingToUndo();
        backFromFullTables();
        countWhat();
        countOthers();
        countOfRefusals();
        countOfRefusalsIsNotKept();
        countOfUndone();
        statusAheadOfAny();
        statusOfEach();
        statusStays();
        Check.finish("EdgesOfKeepingTest");
    }

    private static void mood() {
        Edge.says(6, "TERMS: 0 MOOD 0 .. 9 (0 at first)");
        Counted x = new Counted();
        Check.due("at first", x.count(11), 0);
        int was = 0;
        for (int value : new int[] {0, 9, 1, 8, 9, 0}) {
            Check.due("terms(0, " + value + ")", x.terms(0, value), was);
            Check.due("status", x.status(), 0);
            Check.due("count(11)", x.count(11), value);
            was = value;
        }
        Check.due("LONG is another", x.count(12), 200);
        Check.due("10", x.terms(0, 10), -1);
        Check.due("-1", x.terms(0, -1), -1);
    }

    private static void howLong() {
        Edge.says(6, "1 LONG 1 .. 300 (200): how many STEPS are looked ahead at most.");
        Counted x = new Counted();
        Check.due("at first", x.count(12), 200);
        int was = 200;
        for (int value : new int[] {1, 300, 2, 299, 200, 1}) {
            Check.due("terms(1, " + value + ")", x.terms(1, value), was);
            Check.due("status", x.status(), 0);
            Check.due("count(12)", x.count(12), value);
            was = value;
        }
        Check.due("MOOD is another", x.count(11), 0);
        Check.due("0", x.terms(1, 0), -1);
        Check.due("301", x.terms(1, 301), -1);
        Check.due("it stays", x.count(12), 1);
    }

    private static void termsTellWhatWas() {
        Edge.says(6, "A TERM: what it was.");
        Counted x = new Counted();
        Check.due("0 is no refusal", x.terms(0, 3), 0);
        Check.due("status", x.status(), 0);
        Check.due("what it was", x.terms(0, 3), 3);
        Check.due("the same again", x.terms(0, 3), 3);
    }

    private static void termsThatCannotBe() {
        Edge.says(6, "A TERM: what it was. -1.");
        int[][] terms = {{0, -1}, {0, 10}, {0, LEAST}, {0, GREATEST}, {1, 0}, {1, 301}, {1, -1}, {1, LEAST}, {1, GREATEST},
            {2, 1}, {-1, 1}, {LEAST, 1}, {GREATEST, 1}, {12, 5}};
        for (int[] term : terms) {
            String name = "terms(" + term[0] + ", " + term[1] + ")";
            Untouched.by(Scene::rich, name, x -> x.terms(term[0], term[1])).refused(-1);
        }
    }

    private static void sightsAtMost() {
        Edge.says(23, "SIGHTS, 8 at most: behind k STEPS 0 .. 99 the TOP was a CARD.");
        Counted x = new Counted();
        x.image(0);
        for (int round = 0; round < 3; round++) {
            for (int i = 1; i <= 8; i++) {
                Check.due("sight " + i, x.sight(i, i), i);
                Check.due("count(1)", x.count(1), i);
            }
            Check.due("no ninth", x.sight(0, 0), -5);
            Check.due("count(1)", x.count(1), 8);
            if (round == 0) {
                x.forget();
            } else {
                x.back(0);
            }
            Check.due("none again", x.count(1), 0);
        }
    }

    private static void sightSteps() {
        Edge.says(23, "behind k STEPS 0 .. 99 the TOP was a CARD.");
        Counted x = new Counted();
        Check.due("0", x.sight(0, 5), 1);
        Check.due("99", x.sight(99, 5), 2);
        Check.due("-1", x.sight(-1, 5), -1);
        Check.due("100", x.sight(100, 5), -1);
        Check.due("the same again", x.sight(99, 5), 3);
    }

    private static void sightCards() {
        Edge.says(23, "behind k STEPS 0 .. 99 the TOP was a CARD.");
        Counted x = new Counted();
        Check.due("a joker", x.sight(5, 0), 1);
        Check.due("13", x.sight(5, 13), 2);
        Check.due("-1", x.sight(5, -1), -1);
        Check.due("14", x.sight(5, 14), -1);
        Counted y = Counted.with(0, 13);
        y.sight(0, 0);
        Check.due("the joker on top", y.fits(0, -1, 0), 1);
        y.forget();
        y.sight(0, 13);
        Check.due("13 on top", y.fits(0, 0, 1), 0);
    }

    private static void sightThatCannotBe() {
        Edge.says(23, "A SIGHT: how many there are. -1; -5.");
        int[][] sights = {{-1, 1}, {100, 1}, {LEAST, 1}, {GREATEST, 1}, {0, -1}, {0, 14}, {0, LEAST}, {0, GREATEST}, {-1, 14}};
        for (int[] sight : sights) {
            String name = "sight(" + sight[0] + ", " + sight[1] + ")";
            Untouched.by(Scene::rich, name, x -> x.sight(sight[0], sight[1])).refused(-1);
        }
    }

    private static void sightWithoutRoom() {
        Edge.says(23, "A SIGHT: how many there are. -1; -5.");
        Untouched.by(Scene::eightSights, "a ninth sight", x -> x.sight(0, 9)).refused(-5);
        Untouched.by(Scene::eightSights, "one that is there already", x -> x.sight(0, 3)).refused(-5);
    }

    private static void sightFirstRefusal() {
        Edge.says(23, "The first of these in that order.");
        Untouched.by(Scene::eightSights, "sight(100, 1) without room", x -> x.sight(100, 1)).refused(-1);
        Untouched.by(Scene::eightSights, "sight(0, 14) without room", x -> x.sight(0, 14)).refused(-1);
    }

    private static void forgetNone() {
        Edge.says(24, "SIGHTS are none then: how many there were.");
        Untouched.by(Scene::nothing, "forget() of none", x -> x.forget()).answers(0);
        Counted x = Scene.rich();
        Check.due("two", x.forget(), 2);
        Check.due("none", x.forget(), 0);
        Check.due("count(1)", x.count(1), 0);
    }

    private static void forgetAll() {
        Edge.says(24, "SIGHTS are none then: how many there were.");
        Counted x = Scene.eightSights();
        x.end(0);
        x.force(9);
        Check.due("eight", x.forget(), 8);
        Check.due("count(1)", x.count(1), 0);
        Check.due("status stays", x.status(), -2);
        Check.due("all rows fit", x.fits(0, -1, 0), 6);
        Check.due("room again", x.sight(0, 3), 1);
        Check.due("that one alone", x.fits(0, -1, 0), 2);
    }

    private static void imageNumbers() {
        Edge.says(30, "IMAGE k is kept: 0; -1.");
        Counted x = Counted.with(3, 1, 2);
        Check.due("image 0", x.image(0), 0);
        Check.due("status", x.status(), 0);
        x.cut(0, 1);
        Check.due("image 1", x.image(1), 0);
        x.cut(0, 1);
        x.back(0);
        x.lies(0, 3, 1, 2);
        x.back(1);
        x.lies(0, 1, 2, 3);
        Check.due("image 2", x.image(2), -1);
        Check.due("image -1", x.image(-1), -1);
    }

    private static void imageThatCannotBe() {
        Edge.says(30, "IMAGE k is kept: 0; -1.");
        for (int k : new int[] {-1, LEAST, 2, GREATEST}) {
            Untouched.by(Scene::bothImages, "image(" + k + ")", x -> x.image(k)).refused(-1);
        }
        Untouched.by(Scene::nothing, "image(2) of nothing", x -> x.image(2)).refused(-1);
    }

    private static void imageAgain() {
        Edge.says(30, "IMAGE k is kept: 0; -1.");
        Counted x = Counted.with(3, 1, 2);
        x.image(0);
        x.cut(0, 1);
        Check.due("kept anew", x.image(0), 0);
        x.cut(0, 1);
        x.back(0);
        x.lies(0, 1, 2, 3);
        Check.due("the other was not", x.back(1), -2);
    }

    private static void imageOfNothing() {
        Edge.says(30, "IMAGES 0, 1 keep all but the TAPE, FAULT");
        Counted x = new Counted();
        Check.due("a table without heaps", x.image(1), 0);
        x.heap(3, 1, 2);
        x.law("ends");
        x.force(0);
        x.sight(0, 1);
        x.terms(0, 9);
        x.terms(1, 9);
        Check.due("back", x.back(1), 0);
        int[] counts = {0, 0, 0, 0, 0, 0, 0, 0, 0, 0, -1, 0, 200};
        for (int what = 0; what < counts.length; what++) {
            Check.due("count(" + what + ")", x.count(what), counts[what]);
        }
        Check.due("heap 0 is gone", x.of(0, 0), -1001);
        Check.due("law 0 is gone", x.force(0), -2);
    }

    private static void imageKeepsAll() {
        Edge.says(31, "BACK to one all that it keeps is as it was then (IMAGES stay).");
        Counted x = Scene.rich();
        x.end(0);
        int[] counts = counts(x);
        x.image(1);
        x.step(1);
        x.swap(0, 0, 1);
        x.cut(2, 3);
        x.heap(7, 7);
        x.law("turns 7");
        x.force(2);
        x.sight(9, 9);
        x.terms(0, 9);
        x.terms(1, 9);
        Check.due("back", x.back(1), 0);
        int[] behind = counts(x);
        for (int i = 0; i < counts.length; i++) {
            Check.due("what it kept, " + i, behind[i], counts[i]);
        }
        Check.due("no law 2", x.force(2), -2);
        Check.due("no heap 3", x.of(3, 0), -1001);
        x.forget();
        x.sight(0, 9);
        x.sight(3, 3);
        Check.due("other sights", x.fits(0, -1, 0), 0);
        x.terms(0, 8);
        Check.due("back", x.back(1), 0);
        Check.due("sights, too", x.count(1), counts[1]);
        Check.due("what was seen, too", x.fits(0, -1, 0), counts[6]);
        Check.due("terms, too", x.count(11), counts[4]);
    }

    private static void imageKeepsWhatWasSeen() {
        Edge.says(31, "BACK to one all that it keeps is as it was then (IMAGES stay).");
        Counted x = Counted.with(3, 1, 2);
        x.sight(1, 1);
        x.image(0);
        x.forget();
        x.sight(0, 1);
        x.image(1);
        Check.due("an ace at once", x.fits(0, 0, 0), 1);
        x.forget();
        x.sight(0, 3);
        Check.due("a three at once", x.fits(0, 0, 0), 3);
        x.back(0);
        Check.due("an ace behind one step", x.fits(0, 0, 0), 2);
        x.back(1);
        Check.due("an ace at once", x.fits(0, 0, 0), 1);
        x.back(0);
        Check.due("how many sights", x.sight(0, 3), 2);
        Check.due("both of them", x.fits(0, -1, 0), 1);
    }

    private static int[] counts(Counted x) {
        return new int[] {x.count(0), x.count(1), x.count(2), x.count(10), x.count(11), x.count(12), x.fits(0, -1, 0),
            x.of(0, 7), x.of(0, 8), x.of(0, 9), x.of(1, 1), x.of(1, 2), x.of(1, 5), x.of(1, 6), x.of(1, 7), x.of(2, 7), x.of(2, 10)};
    }

    private static void imageDoesNotKeep() {
        Edge.says(31, "IMAGES 0, 1 keep all but the TAPE, FAULT, where ORDERS stopped, what can be undone (nothing, behind back()), "
                + "the latest EVENINGS");
        Counted x = Counted.with(3, 1, 2);
        x.image(0);
        x.evenings(0, 0, 1);
        x.orders("cut 1 of 0;step 7");
        x.law("turns x");
        x.put("cut 2 of 0");
        Check.due("back", x.back(0), 0);
        Check.due("fault", x.fault(), 6);
        Check.due("where orders stopped", x.stopped(), 1);
        Check.due("the evenings", x.drawn(2), 2);
        Check.due("the tape", x.count(4), 10);
        Check.due("its bytes", x.orders(), 1);
        x.lies(0, 2, 3, 1);
        Check.due("back again", x.back(0), 0);
        Check.due("where orders stopped", x.stopped(), -1);
        Check.due("fault", x.fault(), -1);
    }

    private static void backToOneThatWasNotKept() {
        Edge.says(31, "-1; -2 it was not kept.");
        Untouched.by(Scene::rich, "back(1)", x -> x.back(1)).refused(-2);
        Untouched.by(Scene::nothing, "back(0)", x -> x.back(0)).refused(-2);
        Untouched.by(Scene::sixteenChanges, "back(1)", x -> x.back(1)).refused(-2);
    }

    private static void backThatCannotBe() {
        Edge.says(31, "BACK to IMAGE k: 0. -1; -2 it was not kept.");
        for (int k : new int[] {-1, LEAST, 2, GREATEST}) {
            Untouched.by(Scene::bothImages, "back(" + k + ")", x -> x.back(k)).refused(-1);
        }
    }

    private static void backFirstRefusal() {
        Edge.says(31, "The first of these in that order.");
        Untouched.by(Scene::nothing, "back(2)", x -> x.back(2)).refused(-1);
        Untouched.by(Scene::nothing, "back(-1)", x -> x.back(-1)).refused(-1);
    }

    private static void backLeavesImages() {
        Edge.says(31, "BACK to one all that it keeps is as it was then (IMAGES stay).");
        Counted x = Counted.with(3, 1, 2);
        x.image(0);
        x.cut(0, 1);
        x.image(1);
        for (int i = 0; i < 4; i++) {
            Check.due("back(0)", x.back(0), 0);
            x.lies(0, 3, 1, 2);
            x.cut(0, 2);
            x.heap(9);
            Check.due("back(1)", x.back(1), 0);
            x.lies(0, 1, 2, 3);
            Check.due("heaps", x.count(0), 1);
            x.step(0);
            x.swap(0, 0, 1);
            x.sight(0, 1);
        }
    }

    private static void backLeavesNothingToUndo() {
        Edge.says(31, "what can be undone (nothing, behind back())");
        Counted x = Counted.with(3, 1, 2);
        x.cut(0, 1);
        x.image(0);
        Check.due("image() leaves it", x.count(3), 1);
        x.cut(0, 1);
        x.back(0);
        Check.due("behind back()", x.count(3), 0);
        Check.due("behind back()", x.undo(), -3);
        x.lies(0, 1, 2, 3);
        x.step(9);
        x.cut(0, 1);
        Check.due("from there on", x.undo(), 2);
        x.lies(0, 1, 2, 3);
        Check.due("no more", x.undo(), -3);
    }

    private static void backFromFullTables() {
        Edge.says(31, "BACK to one all that it keeps is as it was then");
        Counted x = new Counted();
        x.image(0);
        for (int i = 0; i < 6; i++) {
            x.heap(i + 2, i);
            x.law("turns " + (i + 1));
            x.sight(i, i);
        }
        x.sight(0, 0);
        x.sight(0, 0);
        x.force(5);
        x.image(1);
        x.back(0);
        Check.due("no heaps", x.count(0), 0);
        Check.due("a heap", x.heap(13, 12, 11), 0);
        Check.due("a law", x.law("turns 2;sinks 2"), 0);
        Check.due("a sight", x.sight(1, 1), 1);
        x.force(0);
        x.cut(0, 1);
        x.back(1);
        Check.due("six heaps", x.count(0), 6);
        Check.due("six laws", x.count(2), 6);
        Check.due("eight sights", x.count(1), 8);
        Check.due("the law in force", x.count(10), 5);
        for (int i = 0; i < 6; i++) {
            x.lies(i, i + 2, i);
            x.force(i);
            Check.due("law " + i, x.of(0, 5), i + 1);
            Check.due("sinks", x.of(0, 6), 0);
        }
        Check.due("no room", x.heap(1), -5);
        Check.due("no room", x.law("ends"), -5);
        Check.due("no room", x.sight(0, 0), -5);
    }

    private static void countWhat() {
        Edge.says(32, "0 HEAPS, 1 SIGHTS, 2 LAWS, 3 how many can be undone, 4 bytes of the TAPE");
        Counted x = Scene.rich();
        int[] due = {3, 2, 2, 3, Scene.TAPE.length(), 0, 0, 2, 0, 2, 0, 4, 60};
        for (int what = 0; what < due.length; what++) {
            Check.due("count(" + what + ")", x.count(what), due[what]);
        }
        Check.due("heaps at most", Scene.sixHeaps().count(0), 6);
        Check.due("sights at most", Scene.eightSights().count(1), 8);
        Check.due("laws at most", Scene.sixLaws().count(2), 6);
        Check.due("what can be undone at most", Scene.sixteenChanges().count(3), 16);
        Check.due("bytes at most", Scene.fullTape().count(4), 400);
    }

    private static void countOthers() {
        Edge.says(32, "10 the LAW in FORCE, 11, 12 TERMS 0, 1. NONE for others.");
        for (int what : new int[] {-1, LEAST, 13, 14, GREATEST}) {
            Untouched.by(Scene::rich, "count(" + what + ")", x -> x.count(what)).answers(-1);
        }
        Check.due("no law in force", new Counted().count(10), -1);
    }

    private static void countOfRefusals() {
        Edge.says(32, "5 .. 9 how many calls were REFUSED by -1, -2, -3, -5, -6");
        Counted x = Scene.sixHeaps();
        x.end(0);
        int[] before = {x.count(5), x.count(6), x.count(7), x.count(8), x.count(9)};
        x.cut(0, 0);
        for (int i = 0; i < 2; i++) {
            x.step(6);
        }
        for (int i = 0; i < 3; i++) {
            x.orders("step 6");
        }
        for (int i = 0; i < 4; i++) {
            x.heap(1);
        }
        for (int i = 0; i < 5; i++) {
            x.law("x");
        }
        for (int i = 0; i < 5; i++) {
            Check.due("count(" + (5 + i) + ")", x.count(5 + i), before[i] + i + 1);
        }
        // What answers NONE, -1,001 or -1 for "none was" is not refused.
        x.force(-1);
        x.force(-1);
        x.end(999);
        x.of(9, 9);
        x.goes(9, 9);
        x.longest(9, 9);
        x.race(9, 9);
        x.count(99);
        x.drawn(-1);
        for (int i = 0; i < 5; i++) {
            Check.due("count(" + (5 + i) + ") stays", x.count(5 + i), before[i] + i + 1);
        }
    }

    private static void countOfRefusalsIsNotKept() {
        Edge.says(32, "(IMAGES do not keep that)");
        Counted x = Counted.with(3, 1, 2);
        x.cut(0, 0);
        x.image(0);
        x.cut(0, 0);
        x.step(9);
        x.back(0);
        Check.due("by -1", x.count(5), 2);
        Check.due("by -2", x.count(6), 1);
    }

    private static void countOfUndone() {
        Edge.says(32, "3 how many can be undone");
        Counted x = Counted.with(3, 1, 2);
        int[] due = {0, 1, 2, 3, 2, 1, 0, 0};
        for (int i = 0; i < due.length; i++) {
            Check.due("behind " + i, x.count(3), due[i]);
            if (i < 3) {
                x.cut(0, 1);
            } else {
                x.undo();
            }
        }
    }

    private static void statusAheadOfAny() {
        Edge.says(33, "0 if it was not, or ahead of any.");
        Counted x = new Counted();
        Check.due("at first", x.status(), 0);
        x.feed(0, 0, 0, 0, 0);
        x.end(99);
        x.of(0, 0);
        x.goes(0, 0);
        x.longest(9, 0);
        x.race(0, 0);
        x.forget();
        x.drawn(0);
        Check.due("these are none of them", x.status(), 0);
    }

    /** One of the thirteen calls: refused, then not. */
    private static void tells(String name, ToIntFunction<Counted> refused, int code, ToIntFunction<Counted> well) {
        Counted x = Scene.rich();
        x.end(0);
        Check.due(name + " refused", refused.applyAsInt(x), code);
        Check.due("status behind " + name, x.status(), code);
        Check.due("status again", x.status(), code);
        Check.holds(name + " is not refused", well.applyAsInt(x) >= -1);
        Check.due("status behind " + name, x.status(), 0);
        Check.due(name + " refused", refused.applyAsInt(x), code);
        Check.due("status behind " + name, x.status(), code);
    }

    private static void statusOfEach() {
        Edge.says(33, "What the latest call of heap, terms, law, orders, force, step, swap, cut, undo, sight, evenings, image, back "
                + "was REFUSED by; 0 if it was not");
        tells("heap", x -> x.heap(14), -6, x -> x.heap(1));
        tells("terms", x -> x.terms(0, 10), -1, x -> x.terms(0, 9));
        tells("law", x -> x.law("x"), -6, x -> x.law("ends"));
        tells("orders", x -> x.orders("x"), -6, x -> x.orders("cut 1 of 0"));
        tells("orders", x -> x.orders("step 9"), -3, x -> x.orders("cut 1 of 0 if 1=2"));
        tells("force", x -> x.force(9), -2, x -> x.force(-1));
        tells("step", x -> x.step(9), -2, x -> x.step(2));
        tells("swap", x -> x.swap(0, 1, 1), -1, x -> x.swap(0, 0, 1));
        tells("swap", x -> x.swap(9, 1, 1), -2, x -> x.swap(0, 0, 1));
        tells("cut", x -> x.cut(0, 0), -1, x -> x.cut(0, 1));
        tells("cut", x -> x.cut(9, 0), -2, x -> x.cut(0, 1));
        tells("sight", x -> x.sight(100, 0), -1, x -> x.sight(99, 0));
        tells("evenings", x -> x.evenings(0, 0, 0), -1, x -> x.evenings(0, 0, 1));
        tells("evenings", x -> x.evenings(9, 0, 0), -2, x -> x.evenings(0, 0, 1));
        tells("image", x -> x.image(2), -1, x -> x.image(0));
        tells("back", x -> x.back(2), -1, x -> x.back(0));
        tells("back", x -> x.back(1), -2, x -> x.back(0));
        tells("undo", x -> {
            x.terms(0, 0);
            return x.undo();
        }, -3, x -> {
            x.cut(0, 1);
            x.cut(0, 0);
            return x.undo();
        });
        Counted full = Scene.eightSights();
        full.sight(0, 0);
        Check.due("sight without room", full.status(), -5);
        Counted laws = Scene.sixLaws();
        laws.law();
        Check.due("law without room", laws.status(), -5);
        Counted heaps = Scene.sixHeaps();
        heaps.heap();
        Check.due("heap without room", heaps.status(), -5);
    }

    private static void statusStays() {
        Edge.says(33, "What the latest call of heap, terms, law, orders, force, step, swap, cut, undo, sight, evenings, image, back");
        for (int code : new int[] {-2, 0}) {
            Counted x = Scene.rich();
            if (code != 0) {
                x.step(9);
            }
            x.feed(0, 0, 0, 0, 0);
            x.end(0);
            x.end(-1);
            x.of(0, 0);
            x.of(9, 0);
            x.fault();
            x.stopped();
            x.goes(0, 0);
            x.goes(9, 0);
            x.after(0, 0, 0);
            x.after(0, 301, 0);
            x.longest(3, 0);
            x.longest(8, 0);
            x.orderly(3, 0);
            x.orderly(8, 0);
            x.to(0, -1, 0);
            x.to(9, -1, 0);
            x.cheat(0, 0);
            x.cheat(9, 0);
            x.odds(0, 0, 0, 0);
            x.odds(0, 8, 0, 0);
            x.forget();
            x.fits(0, -1, 0);
            x.fits(9, -1, 0);
            x.race(0, 1);
            x.race(9, 9);
            x.sorted(0, 0);
            x.sorted(9, 0);
            x.drawn(0);
            x.drawn(-1);
            x.count(0);
            x.count(99);
            Check.due("the other calls leave it", x.status(), code);
        }
    }
}
