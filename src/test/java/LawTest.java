/** What laws tell (term II, promises 5, 7 and 11), and the law in force. */
public final class LawTest {
    public static void main(String[] args) {
        words();
        wordsOfRows();
        latestThatHolds();
        signs();
        broken();
        onlyIfItMatters();
        ends();
        sticks();
        force();
        sinking();
        Check.finish("LawTest");
    }

    private static void tells(String sum, int want, int... cards) {
        Counted x = Counted.under("turns " + sum, cards);
        Check.due(sum, x.of(0, 5), want);
    }

    /** Whether a test is so: 1, 0. */
    private static void isSo(String test, int want) {
        Counted x = Counted.under("ends if " + test, 4, 7, 9, 2);
        Check.due(test, x.of(0, 3), want);
    }

    private static void words() {
        tells("top", 4, 4, 7, 9, 2);
        tells("second", 7, 4, 7, 9, 2);
        tells("third", 9, 4, 7, 9, 2);
        tells("under", 2, 4, 7, 9, 2);
        tells("many", 4, 4, 7, 9, 2);
        tells("last", 0, 4, 7, 9, 2);
        tells("heap", 0, 4, 7, 9, 2);
        tells("mood", 0, 4, 7, 9, 2);
        tells("second", -1, 4);
        tells("third", -1, 4, 3);
        tells("under", 4, 4);
        tells("top", 0, 0, 3);
        Counted x = Counted.under("turns heap*100+mood*10+last", 2, 3, 1);
        x.heap(3, 2, 1);
        x.terms(0, 9);
        Check.due("heap and mood", x.of(1, 5), 190);
        x.force(-1);
        x.step(1);
        x.force(0);
        Check.due("last", x.of(1, 5), 193);
    }

    private static void wordsOfRows() {
        Counted x = Counted.under("ends if heap=0-1; ends if heap=1", 2, 1, 3);
        x.heap(2, 1, 3);
        Check.due("orders are no heap", x.orderly(3, 0), 6);
        Check.due("rows of heap 0 have its number", x.odds(0, 0, 0, 0), 0);
        Check.due("rows of heap 1 have its number", x.odds(1, 0, 0, 0), 1);
        Check.due("a cheat has its heap's number", x.cheat(0, 0), -1);
        Check.due("a cheat has its heap's number", x.cheat(1, 0), 0);
        Check.due("an evening has its heap's number", x.evenings(0, 1, 5), 0);
        Check.due("an evening has its heap's number", x.evenings(1, 1, 5), 5);
    }

    private static void latestThatHolds() {
        tells("1;turns 2;turns 3 if top=9", 2, 4, 1);
        tells("1;turns 2;turns 3 if top=4", 3, 4, 1);
        tells("1 if top=9", 4, 4, 1);
        tells("5;turns 1/0", 5, 4, 1);
        tells("5;turns 6 if 1/0=0", 5, 4, 1);
        tells("5;turns 6 if not 1/0=0", 5, 4, 1);
        Counted x = Counted.under("sinks 1;turns 2;sinks 3 if top=4;sinks 1/0;turns 0", 4, 1);
        Check.due("sinks", x.of(0, 6), 3);
        Check.due("turns", x.of(0, 5), 0);
        Counted y = Counted.under("turns 5 if top>0", 0, 1);
        Check.due("last for a joker", y.of(0, 5), 0);
    }

    private static void signs() {
        tells("2+3*4", 14, 1);
        tells("[2+3]*4", 20, 1);
        tells("20-3-4", 13, 1);
        tells("100/7/2", 7, 1);
        tells("0-7/2", -3, 1);
        tells("[0-7]/2", -3, 1);
        tells("[0-7]%2", -1, 1);
        tells("7%[0-4]", 3, 1);
        tells("7/[0-4]", -1, 1);
        tells("100%7*3", 6, 1);
        isSo("1<2", 1);
        isSo("2<2", 0);
        isSo("2>1", 1);
        isSo("2>2", 0);
        isSo("2=2", 1);
        isSo("not 2=2", 0);
        isSo("not not 2=2", 1);
        isSo("1=2 or 2=2 and 3=4", 0);
        isSo("2=2 or 2=2 and 3=4", 1);
        isSo("(2=2 or 2=2) and 3=4", 0);
        isSo("not 1=2 and 1=2", 0);
        isSo("not (1=2 and 1=2)", 1);
        isSo("1=2 or 1=2 or 1=1", 1);
        isSo("1=1 and 1=1 and 1=2", 0);
    }

    private static void broken() {
        tells("1000*1000*1000/1000/1000", 1000, 1);
        tells("1000*1000*1000-1", 1000, 1);
        tells("1000*1000*1000+1", 6, 6);
        tells("1000*1000*1000+1-1", 6, 6);
        tells("0-1000*1000*1000", -1000, 6);
        tells("0-1000*1000*1000-1", 6, 6);
        tells("1000*1000*1000*1000", 6, 6);
        tells("[1000*1000*1000]*[1000*1000*1000]", 6, 6);
        tells("1/0", 6, 6);
        tells("1%0", 6, 6);
        tells("0*[1/0]", 6, 6);
        isSo("1/0=1", 0);
        isSo("not 1/0=1", 0);
        isSo("1/0=1 or 1=1", 0);
        isSo("1=2 or 1/0=1", 0);
    }

    private static void onlyIfItMatters() {
        isSo("1=1 or 1/0=1", 1);
        isSo("not (1=2 and 1/0=1)", 1);
        isSo("1=2 and 1/0=1 or 1=1", 1);
        isSo("1=1 or 1/0=1 and 1/0=1", 1);
        isSo("(1=1 or 1/0=1) and 1=1", 1);
        isSo("1=1 and 1/0=1", 0);
        isSo("not (1=1 and 1/0=1)", 0);
    }

    private static void ends() {
        Counted x = Counted.under("ends if top=2", 1, 2);
        Check.due("the ace does not end it", x.of(0, 3), 0);
        x.heap(2, 1);
        Check.due("a two does", x.of(1, 3), 1);
        Check.due("no step then", x.step(1), -3);
        Counted y = Counted.under("ends if 1/0=1", 1, 2);
        Check.due("a broken one does not, but is there", y.of(0, 3), 0);
        Counted z = Counted.under("turns 9; sinks 9", 1, 2);
        Check.due("the ace without such a clause", z.of(0, 3), 1);
        Check.due("what has ended does not stick", z.of(0, 4), 0);
        Counted both = Counted.under("ends if top=9;ends;ends if top=9", 5, 2);
        Check.due("one of them is enough", both.of(0, 3), 1);
    }

    private static void sticks() {
        Check.due("turns below 0", Counted.under("turns 0-1", 2, 3).of(0, 4), 1);
        Check.due("turns 0", Counted.under("turns 0", 2, 3).of(0, 4), 0);
        Check.due("turns all", Counted.under("turns many", 2, 3).of(0, 4), 0);
        Check.due("turns more", Counted.under("turns many+1", 2, 3).of(0, 4), 1);
        Check.due("sinks below 0", Counted.under("sinks 0-1", 2, 3).of(0, 4), 1);
        Check.due("sinks all", Counted.under("sinks many", 2, 3).of(0, 4), 0);
        Check.due("sinks more", Counted.under("sinks many+1", 2, 3).of(0, 4), 1);
        Check.due("no step then", Counted.under("sinks many+1", 2, 3).step(0), -3);
    }

    private static void force() {
        Counted x = Counted.with(3, 1, 2);
        x.law("turns 1");
        x.law("turns 2");
        Check.due("none was", x.force(1), -1);
        Check.due("status", x.status(), 0);
        Check.due("turns", x.of(0, 5), 2);
        Check.due("the second was", x.force(0), 1);
        Check.due("turns", x.of(0, 5), 1);
        Check.due("the first was", x.force(0), 0);
        Check.due("no such law", x.force(2), -2);
        Check.due("status", x.status(), -2);
        Check.due("no such law", x.force(-2), -2);
        Check.due("no such law", x.force(Integer.MAX_VALUE), -2);
        Check.due("no such law", x.force(Integer.MIN_VALUE), -2);
        Check.due("count(6)", x.count(6), 4);
        Check.due("count(10)", x.count(10), 0);
        Check.due("none", x.force(-1), 0);
        Check.due("count(10)", x.count(10), -1);
        Check.due("turns", x.of(0, 5), 3);
        Check.due("none was", x.force(-1), -1);
        Check.due("status of it", x.status(), 0);
        Check.due("count(6)", x.count(6), 4);
    }

    private static void sinking() {
        Counted x = Counted.under("sinks second; turns 3", 2, 1, 4, 5, 6);
        Check.due("a step", x.step(0), 1);
        x.lies(0, 1, 2, 5, 6, 4);
        Counted y = Counted.under("sinks many; turns 2", 2, 1, 4);
        y.step(0);
        y.lies(0, 1, 2, 4);
        Counted z = Counted.under("turns 0; sinks 2", 2, 1, 4, 5);
        z.step(0);
        z.lies(0, 4, 5, 2, 1);
        Check.due("last is what was turned", z.of(0, 2), 0);
    }
}
