/** The edges of what laws tell (term II, promises 5, 7 and 11): broken sums, words without a card, ends, sticks, force. */
public final class EdgesOfLawsTest {
    private static final int LEAST = Integer.MIN_VALUE;
    private static final int GREATEST = Integer.MAX_VALUE;
    private static final String MILLIARD = "1000*1000*1000";

    public static void main(String[] args) {
        sumsAtTheirBound();
        sumsBeyondOnTheWay();
        dividedByNothing();
        cutTowardsNothing();
        signsFromTheLeft();
        brokenTests();
        orsOfAnds();
        notOfAPlain();
        orAsksOnlyIfItMatters();
        andAsksOnlyIfItMatters();
        wordsOfAHeap();
        wordsWithoutACard();
        heapOfRowsThatAreNoHeap();
        moodAndLast();
        clauseHolds();
        turnsTheLastThatHolds();
        turnsWithout();
        turnsOfAJoker();
        sinksWithout();
        endedWithoutALaw();
        endedWithAClause();
        endedWithoutAClause();
        sticksByTurning();
        sticksBySinking();
        endedIsAheadOfSticks();
        noneInForceAtFirst();
        forceLaws();
        forceNone();
        forceWithoutSuchALaw();
        Check.finish("EdgesOfLawsTest");
    }

    /** What a sum tells; a broken one leaves the top, 6. */
    private static void tells(String sum, int want) {
        Counted x = Counted.under("turns " + sum, 6, 5);
        Check.due(sum, x.of(0, 5), want);
    }

    private static void isBroken(String sum) {
        tells(sum, 6);
        Counted x = Counted.under("turns 7;turns " + sum, 6, 5);
        Check.due(sum + " behind one that holds", x.of(0, 5), 7);
    }

    /** Whether a test is so; a broken one is not, nor is what is not it. */
    private static void test(String test, boolean so, boolean broken) {
        Counted x = Counted.under("ends if " + test, 6, 5);
        Check.due(test, x.of(0, 3), so ? 1 : 0);
        Counted y = Counted.under("ends if not (" + test + ")", 6, 5);
        Check.due("not (" + test + ")", y.of(0, 3), so || broken ? 0 : 1);
    }

    private static void sumsAtTheirBound() {
        Edge.says(5, "Beyond 1,000,000,000 either way, or divided by 0");
        // Divided by 1,000,000 and less 990 the bound is 10.
        tells("[" + MILLIARD + "]/1000/1000-990", 10);
        tells("[" + MILLIARD + "-1+1]/1000/1000-990", 10);
        tells("[999*1000*1000+1000*1000]/1000/1000-990", 10);
        isBroken("[" + MILLIARD + "+1]/1000/1000-990");
        isBroken("[1+" + MILLIARD + "]/1000/1000-990");
        isBroken("[999*1000*1000+1000*1000+1]/1000/1000-990");
        tells("[0-" + MILLIARD + "]/1000/1000+990", -10);
        isBroken("[0-" + MILLIARD + "-1]/1000/1000+990");
        isBroken("[0-1-" + MILLIARD + "]/1000/1000+990");
        tells("[0-" + MILLIARD + "]*[0-1]/1000/1000-990", 10);
        tells("[0-" + MILLIARD + "]/[0-1]/1000/1000-990", 10);
        tells(MILLIARD + "-" + MILLIARD, 0);
        // 31623 squared is 1,000,014,129; 31622 squared is 999,950,884.
        tells("[31*1000+622]*[31*1000+622]/1000/1000-990", 9);
        isBroken("[31*1000+623]*[31*1000+623]/1000/1000-990");
    }

    private static void sumsBeyondOnTheWay() {
        Edge.says(5, "Beyond 1,000,000,000 either way, or divided by 0");
        isBroken(MILLIARD + "+1-1");
        isBroken(MILLIARD + "*2/2");
        isBroken(MILLIARD + "*1000/1000/1000/1000");
        isBroken("0*[" + MILLIARD + "+1]");
        // Beyond int and beyond long: neither may go round to a number that can be.
        isBroken("[" + MILLIARD + "]*[" + MILLIARD + "]");
        isBroken("[0-" + MILLIARD + "]*[" + MILLIARD + "]");
        isBroken(MILLIARD + "*1000*1000*1000*1000");
        isBroken("256*256*256*256");
        isBroken("[" + MILLIARD + "]+[" + MILLIARD + "]+[" + MILLIARD + "]+[" + MILLIARD + "]");
        tells(MILLIARD + "*0", 0);
    }

    private static void dividedByNothing() {
        Edge.says(5, "or divided by 0 (/ cut towards 0, % what is left then), a SUM, a TEST is BROKEN");
        isBroken("1/0");
        isBroken("1%0");
        isBroken("0/0");
        isBroken("0%0");
        isBroken("1/[5-5]");
        isBroken("1%[top-6]");
        isBroken("1+2*[3/0]");
        isBroken("0*[1%0]");
        isBroken("[0-" + MILLIARD + "]/0");
        tells("0/1", 0);
        tells("0%1", 0);
        tells("0/[0-1]", 0);
    }

    private static void cutTowardsNothing() {
        Edge.says(5, "(/ cut towards 0, % what is left then)");
        tells("7/2", 3);
        tells("7%2", 1);
        tells("[0-7]/2", -3);
        tells("[0-7]%2", -1);
        tells("7/[0-2]", -3);
        tells("7%[0-2]", 1);
        tells("[0-7]/[0-2]", 3);
        tells("[0-7]%[0-2]", -1);
        tells("1/2", 0);
        tells("[0-1]/2", 0);
        tells("[0-1]%2", -1);
        tells("6%6", 0);
        tells("5%6", 5);
        tells("1000/1000", 1);
        tells("999/1000", 0);
    }

    private static void signsFromTheLeft() {
        Edge.says(5, "SUM: TERM {(\"+\" | \"-\") TERM}. TERM: PART {(\"*\" | \"/\" | \"%\") PART}.");
        tells("2+3*4", 14);
        tells("2*3+4", 10);
        tells("2*3+4*5", 26);
        tells("20-6/3", 18);
        tells("20-9%5", 16);
        tells("20-3-4", 13);
        tells("20-3+4", 21);
        tells("20+3-4-5", 14);
        tells("100/7/2", 7);
        tells("100/7*7", 98);
        tells("7*100/7", 100);
        tells("101%7*3", 9);
        tells("3*101%7", 2);
        tells("100%60%7", 5);
        tells("100%[60%7]", 0);
        tells("[2+3]*4", 20);
        tells("2*[3+4]", 14);
        tells("20-[3-4]", 21);
        tells("20-[3+4]", 13);
        tells("100/[7/2]", 33);
        tells("[[20]-[3]]*[2]", 34);
        tells("top*top-many*many", 32);
    }

    private static void orsOfAnds() {
        Edge.says(5, "TEST: BOTH {\"or\" BOTH}. BOTH: PLAIN {\"and\" PLAIN}.");
        String[] tests = {"1=2", "1=1"};
        for (int i = 0; i < 16; i++) {
            boolean a = (i & 1) != 0;
            boolean b = (i & 2) != 0;
            boolean c = (i & 4) != 0;
            boolean d = (i & 8) != 0;
            String p = tests[i & 1];
            String q = tests[i >> 1 & 1];
            String r = tests[i >> 2 & 1];
            String s = tests[i >> 3 & 1];
            test(p + " or " + q + " and " + r, a || b && c, false);
            test(p + " and " + q + " or " + r, a && b || c, false);
            test(p + " and " + q + " or " + r + " and " + s, a && b || c && d, false);
            test(p + " or " + q + " and " + r + " or " + s, a || b && c || d, false);
            test("(" + p + " or " + q + ") and (" + r + " or " + s + ")", (a || b) && (c || d), false);
            test(p + " and (" + q + " or " + r + ") and " + s, a && (b || c) && d, false);
        }
    }

    private static void notOfAPlain() {
        Edge.says(5, "PLAIN: \"not\" PLAIN | \"(\" TEST \")\" | SUM (\"<\" | \">\" | \"=\") SUM.");
        test("not 1=1", false, false);
        test("not 1=2", true, false);
        test("not not 1=1", true, false);
        test("not not not 1=1", false, false);
        // "not" is of what stands next alone.
        test("not 1=2 and 1=2", false, false);
        test("not 1=1 or 1=1", true, false);
        test("not (1=2 and 1=2)", true, false);
        test("not (1=1 or 1=1)", false, false);
        test("1=1 and not 1=2", true, false);
        test("1=2 or not not (1=1)", true, false);
        test("not 1+1<1*1", true, false);
        test("((1+1)=2)".replace("(1+1)", "[1+1]"), true, false);
        test("2*2>3 and 3<2*2 and 4=2*2", true, false);
        test("2*2>4 or 4<2*2 or 5=2*2", false, false);
    }

    private static void brokenTests() {
        Edge.says(5, "a SUM, a TEST is BROKEN");
        for (String sign : new String[] {"<", ">", "="}) {
            test("1/0" + sign + "1", false, true);
            test("1" + sign + "1%0", false, true);
            test(MILLIARD + "+1" + sign + "1", false, true);
            test("0-" + MILLIARD + "-1" + sign + "1", false, true);
        }
        test(MILLIARD + "=" + MILLIARD, true, false);
        test("1<1", false, false);
        test("1<2", true, false);
        test("1>1", false, false);
        test("2>1", true, false);
        test("1=2", false, false);
        test("0-" + MILLIARD + "<1", true, false);
        test("not 1/0=1", false, true);
        test("not not 1/0=1", false, true);
        test("(1/0=1)", false, true);
    }

    private static void orAsksOnlyIfItMatters() {
        Edge.says(5, "(\"or\", \"and\" ask what stands behind only if it can still matter)");
        test("1=1 or 1/0=1", true, false);
        test("1=2 or 1/0=1", false, true);
        test("1=2 or 1=1 or 1/0=1", true, false);
        test("1=1 or 1/0=1 or 1/0=1", true, false);
        test("1=2 or 1/0=1 or 1=1", false, true);
        test("1/0=1 or 1=1", false, true);
        test("1=1 or 1/0=1 and 1/0=1", true, false);
        test("(1=1 or 1/0=1) and 1=1", true, false);
        test("(1=1 or 1/0=1) and 1=2", false, false);
        test("not 1=2 or 1/0=1", true, false);
    }

    private static void andAsksOnlyIfItMatters() {
        Edge.says(5, "(\"or\", \"and\" ask what stands behind only if it can still matter)");
        test("1=2 and 1/0=1", false, false);
        test("1=1 and 1/0=1", false, true);
        test("1=1 and 1=2 and 1/0=1", false, false);
        test("1=2 and 1/0=1 and 1/0=1", false, false);
        test("1=1 and 1/0=1 and 1=2", false, true);
        test("1/0=1 and 1=2", false, true);
        test("1=2 and 1/0=1 or 1=1", true, false);
        test("1=2 and (1=1 or 1/0=1)", false, false);
        test("1=1 and (1=2 or 1/0=1)", false, true);
        test("1=2 and 1/0=1 or 1=2 and 1/0=1", false, false);
        test("not 1=1 and 1/0=1", false, false);
    }

    private static void wordsOfAHeap() {
        Edge.says(5, "All are asked of a HEAP: top, second, third: these CARDS (-1: none), under: the lowest one, many: how many there "
                + "are, last: LAST, heap: its number");
        String[] words = {"top", "second", "third", "under", "many", "last", "heap"};
        // Heap 0 is 5 4 3 2 with last 3 behind a step, heap 1 has made none.
        int[][] due = {{5, 4, 3, 2, 4, 3, 0}, {7, 8, -1, 8, 2, 0, 1}};
        for (int w = 0; w < words.length; w++) {
            Counted x = Counted.with(3, 4, 5, 2);
            x.heap(7, 8);
            x.step(0);
            x.lies(0, 5, 4, 3, 2);
            x.law("turns " + words[w] + ";sinks [" + words[w] + "]*10");
            x.force(0);
            for (int heap = 0; heap < 2; heap++) {
                Check.due(words[w] + " of heap " + heap, x.of(heap, 5), due[heap][w]);
                Check.due("ten times " + words[w] + " of heap " + heap, x.of(heap, 6), due[heap][w] * 10);
            }
        }
    }

    private static void wordsWithoutACard() {
        Edge.says(5, "top, second, third: these CARDS (-1: none), under: the lowest one, many: how many there are");
        int[][] heaps = {{9}, {9, 8}, {9, 8, 7}, {9, 8, 7, 5}, {0, 0, 0, 0, 0, 0, 0, 0, 0, 0, 0, 0, 13}};
        int[][] due = {{9, -1, -1, 9, 1}, {9, 8, -1, 8, 2}, {9, 8, 7, 7, 3}, {9, 8, 7, 5, 4}, {0, 0, 0, 13, 13}};
        String[] words = {"top", "second", "third", "under", "many"};
        for (int h = 0; h < heaps.length; h++) {
            for (int w = 0; w < words.length; w++) {
                Counted x = Counted.under("turns " + words[w], heaps[h]);
                Check.due(words[w] + " of " + heaps[h].length + " cards", x.of(0, 5), due[h][w]);
            }
        }
    }

    private static void heapOfRowsThatAreNoHeap() {
        Edge.says(5, "heap: its number (-1 for rows that are no HEAP)");
        Counted x = Counted.under("turns heap", 3, 2, 1);
        for (int i = 1; i < 6; i++) {
            x.heap(3, 2, 1);
        }
        for (int i = 0; i < 6; i++) {
            Check.due("heap " + i, x.of(i, 5), i);
        }
        // Rows of orders alone have -1: all of them end at once, rows of a heap end by its number.
        x.law("ends if heap=0-1;ends if heap=5");
        x.force(1);
        Check.due("orders of three", x.orderly(3, 0), 6);
        Check.due("rows of heap 5", x.odds(5, 0, 0, 0), 1);
        Check.due("rows of heap 4", x.odds(4, 0, 0, 0), 0);
        x.sight(1, 1);
        Check.due("no step from rows of heap 5", x.fits(5, -1, 0), 0);
        // No ace ends heap 4: 1 2 3 and 1 3 2 keep theirs, 2 1 3 and 3 2 1 get it.
        Check.due("steps from rows of heap 4", x.fits(4, -1, 0), 4);
        Check.due("2 3 1 leads to heap 4", x.to(4, -1, 0), 1);
        Check.due("none leads to heap 5", x.to(5, -1, 0), 0);
    }

    private static void moodAndLast() {
        Edge.says(5, "last: LAST, heap: its number");
        Counted x = Counted.under("turns last;sinks mood", 3, 2, 1);
        Check.due("last at first", x.of(0, 5), 0);
        Check.due("mood at first", x.of(0, 6), 0);
        x.terms(0, 9);
        Check.due("the greatest mood", x.of(0, 6), 9);
        x.force(-1);
        x.step(0);
        x.force(0);
        Check.due("last behind a step", x.of(0, 5), 3);
        Counted y = Counted.under("turns last", 13, 2, 3, 4, 5, 6, 7, 8, 9, 10, 11, 12, 1);
        y.force(-1);
        y.step(0);
        y.force(0);
        Check.due("the greatest last", y.of(0, 5), 13);
    }

    private static void clauseHolds() {
        Edge.says(5, "A CLAUSE HOLDS, if its \"if\" (if it has one) is so, and neither that nor its SUM is BROKEN.");
        tells("9", 9);
        tells("9 if 1=1", 9);
        tells("9 if 1=2", 6);
        tells("9 if 1/0=1", 6);
        tells("9 if not 1/0=1", 6);
        tells("9/0 if 1=1", 6);
        tells("9/0 if 1=2", 6);
    }

    private static void turnsTheLastThatHolds() {
        Edge.says(5, "It TURNS what the last \"turns\" that HOLDS tells, without the TOP, LAST for a JOKER");
        tells("1;turns 2;turns 3", 3);
        tells("1;turns 2;turns 3 if 1=2", 2);
        tells("1;turns 2/0;turns 3 if 1=2", 1);
        tells("1;turns 2 if 1/0=1;turns 3 if 1=2", 1);
        tells("1;sinks 2;ends if 1=2", 1);
        Counted x = Counted.under("sinks 1;sinks 2;turns 5;sinks 3/0;sinks 4 if 1=2;ends if 1=2", 6, 5);
        Check.due("the last that sinks and holds", x.of(0, 6), 2);
        Check.due("what turns is another", x.of(0, 5), 5);
    }

    private static void turnsWithout() {
        Edge.says(5, "It TURNS what the last \"turns\" that HOLDS tells, without the TOP");
        Check.due("without a law", Counted.with(13, 1).of(0, 5), 13);
        Check.due("without such a clause", Counted.under("sinks 1", 13, 1).of(0, 5), 13);
        Check.due("if none holds", Counted.under("turns 1 if 1=2", 13, 1).of(0, 5), 13);
        Check.due("an ace, too", Counted.with(1, 2).of(0, 5), 1);
    }

    private static void turnsOfAJoker() {
        Edge.says(5, "without the TOP, LAST for a JOKER");
        Counted x = Counted.with(3, 2, 0, 1);
        x.heap(0, 3, 2, 1);
        Check.due("from last 0", x.of(1, 5), 0);
        Check.due("it does not stick", x.of(1, 4), 0);
        Check.due("nor has it ended", x.of(1, 3), 0);
        x.step(0);
        x.lies(0, 0, 2, 3, 1);
        Check.due("from last 3", x.of(0, 5), 3);
        x.law("turns 1");
        x.force(0);
        Check.due("not if a clause holds", x.of(0, 5), 1);
        x.law("turns 1/0");
        x.force(1);
        Check.due("if none holds", x.of(0, 5), 3);
        Counted y = Counted.with(13, 0, 0, 0, 0, 0, 0, 0, 0, 0, 0, 0, 0);
        y.step(0);
        Check.due("from last 13", y.of(0, 5), 13);
    }

    private static void sinksWithout() {
        Edge.says(5, "it SINKS what the last \"sinks\" that HOLDS tells, 0 without.");
        Check.due("without a law", Counted.with(5, 1).of(0, 6), 0);
        Check.due("without such a clause", Counted.under("turns 1", 5, 1).of(0, 6), 0);
        Check.due("if none holds", Counted.under("sinks 1 if 1=2;sinks 1/0", 5, 1).of(0, 6), 0);
    }

    private static void endedWithoutALaw() {
        Edge.says(5, "without such a CLAUSE (or a LAW), if the TOP is 1.");
        for (int top = 0; top <= 13; top++) {
            Counted x = Counted.with(top, 1, 1);
            Check.due("top " + top, x.of(0, 3), top == 1 ? 1 : 0);
        }
        Check.due("one card", Counted.with(1).of(0, 3), 1);
    }

    private static void endedWithAClause() {
        Edge.says(5, "It has ENDED, if the LAW in FORCE has a CLAUSE of \"ends\" and one HOLDS");
        Check.due("always", Counted.under("ends", 5, 1).of(0, 3), 1);
        Check.due("the first of three", Counted.under("ends;ends if 1=2;ends if 1/0=1", 5, 1).of(0, 3), 1);
        Check.due("the last of three", Counted.under("ends if 1/0=1;ends if 1=2;ends", 5, 1).of(0, 3), 1);
        Check.due("none holds, on an ace", Counted.under("ends if 1=2", 1, 5).of(0, 3), 0);
        Check.due("it is broken, on an ace", Counted.under("ends if 1/0=1", 1, 5).of(0, 3), 0);
        Check.due("it may be stepped on", Counted.under("ends if 1=2", 1, 5).step(0), 1);
    }

    private static void endedWithoutAClause() {
        Edge.says(5, "without such a CLAUSE (or a LAW), if the TOP is 1.");
        Check.due("an ace", Counted.under("turns 0;sinks 1", 1, 5).of(0, 3), 1);
        Check.due("no ace", Counted.under("turns 0;sinks 1", 5, 1).of(0, 3), 0);
        Counted x = Counted.under("ends if 1=2", 1, 5);
        x.force(-1);
        Check.due("the law is not in force", x.of(0, 3), 1);
    }

    private static void sticks(String clause, int want) {
        Counted x = Counted.under(clause, 3, 2, 5);
        Check.due("whether it sticks: " + clause, x.of(0, 4), want);
        Check.due("step: " + clause, x.step(0), want == 1 ? -3 : 1);
        Counted y = Counted.under(clause, 3, 2, 5);
        Check.due("goes: " + clause, y.goes(0, 0) == 1 && y.goes(0, 1) == 0 ? 1 : 0, want);
    }

    private static void sticksByTurning() {
        Edge.says(5, "It STICKS, if it has not ENDED and TURNS or SINKS below 0 or more than it has.");
        sticks("turns 0-1", 1);
        sticks("turns 0", 0);
        sticks("turns 3", 0);
        sticks("turns 4", 1);
        sticks("turns 1000*1000*1000", 1);
        sticks("turns 0-1000*1000*1000", 1);
        Check.due("a top as high as there are cards", Counted.with(2, 1).of(0, 4), 0);
        Check.due("a higher one", Counted.with(3, 1).of(0, 4), 1);
        Check.due("one card", Counted.with(2).of(0, 4), 1);
    }

    private static void sticksBySinking() {
        Edge.says(5, "It STICKS, if it has not ENDED and TURNS or SINKS below 0 or more than it has.");
        sticks("sinks 0-1", 1);
        sticks("sinks 0", 0);
        sticks("sinks 3", 0);
        sticks("sinks 4", 1);
        sticks("turns 4;sinks 4", 1);
        sticks("turns 0;sinks 4", 1);
        sticks("turns 4;sinks 0", 1);
    }

    private static void endedIsAheadOfSticks() {
        Edge.says(5, "It STICKS, if it has not ENDED");
        Counted x = Counted.under("turns 0-1;sinks 9;ends", 3, 2, 5);
        Check.due("it has ended", x.of(0, 3), 1);
        Check.due("it does not stick", x.of(0, 4), 0);
        Check.due("goes", x.goes(0, 0), 0);
        Counted y = Counted.under("turns 9", 1, 5);
        Check.due("an ace", y.of(0, 4), 0);
    }

    private static void noneInForceAtFirst() {
        Edge.says(11, "LAWS, 6 at most; one is in FORCE (NONE at first: no CLAUSE)");
        Counted x = Counted.with(3, 2, 1);
        Check.due("none", x.count(10), -1);
        x.law("turns 1;sinks 1;ends");
        Check.due("a new law is not in force", x.count(10), -1);
        Check.due("turns", x.of(0, 5), 3);
        Check.due("sinks", x.of(0, 6), 0);
        Check.due("ended", x.of(0, 3), 0);
        Check.due("none was", x.force(0), -1);
        Check.due("that is not refused", x.status(), 0);
        Check.due("nor counted", x.count(5), 0);
    }

    private static void forceLaws() {
        Edge.says(11, "A LAW is in FORCE (NONE: none): which was.");
        Counted x = Scene.sixLaws();
        int was = 0;
        for (int law : new int[] {5, 0, 5, 5, 3, 0}) {
            Check.due("force(" + law + ")", x.force(law), was);
            Check.due("status", x.status(), 0);
            Check.due("count(10)", x.count(10), law);
            was = law;
        }
        Check.due("what can be undone stays", x.count(3), 3);
    }

    private static void forceNone() {
        Edge.says(11, "A LAW is in FORCE (NONE: none): which was.");
        Counted x = Counted.under("turns 1", 3, 2, 1);
        Check.due("none", x.force(-1), 0);
        Check.due("turns", x.of(0, 5), 3);
        Check.due("none was", x.force(-1), -1);
        Check.due("status", x.status(), 0);
        Check.due("none was", x.force(0), -1);
        Check.due("turns", x.of(0, 5), 1);
        Check.due("nothing is counted", x.count(5) + x.count(6), 0);
        Check.due("without laws", new Counted().force(-1), -1);
    }

    private static void forceWithoutSuchALaw() {
        Edge.says(11, "which was. -2.");
        for (int law : new int[] {-2, LEAST, 2, 5, 6, GREATEST}) {
            Untouched.by(Scene::rich, "force(" + law + ")", x -> x.force(law)).refused(-2);
        }
        Untouched.by(Scene::sixLaws, "force(6)", x -> x.force(6)).refused(-2);
        Untouched.by(Scene::nothing, "force(0) without laws", x -> x.force(0)).refused(-2);
        Untouched.by(Scene::nothing, "force(-2) without laws", x -> x.force(-2)).refused(-2);
    }
}
