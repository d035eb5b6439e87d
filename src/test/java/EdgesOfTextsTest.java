/** The edges of promises 7 to 9: what can be read as a law or as orders, and where a fault is. */
public final class EdgesOfTextsTest {
    public static void main(String[] args) {
        textsOfTheWholeTape();
        tokensAreLongestRows();
        lettersAndDigitsEnd();
        otherBytesAreSingle();
        blanksAreThirtyTwo();
        clausesOfLaws();
        clausesOfOrders();
        clausesAreParted();
        numbers();
        numbersOfManyDigits();
        partsOfLaws();
        partsOfOrders();
        partsAreNumbersAndWords();
        brackets();
        bracketsOfBothKinds();
        bracketsBesideOneAnother();
        faultAtTheEnd();
        faultAtTheFirst();
        grammarOfTests();
        grammarOfSums();
        grammarOfLaws();
        grammarOfOrders();
        wordsOfTheOtherLanguage();
        times();
        heapsOfWords();
        lawWithoutTokens();
        ordersWithoutTokens();
        lawNumbers();
        lawWithoutRoom();
        lawThatCannotBe();
        lawLeavesWhatCanBeUndone();
        faultAtFirst();
        faultStays();
        Check.finish("EdgesOfTextsTest");
    }

    private static String law(int clauses) {
        return "ends" + ";ends".repeat(clauses - 1);
    }

    private static String orders(int clauses) {
        return "step 0 if 1=2" + ";step 0 if 1=2".repeat(clauses - 1);
    }

    /** A law, orders that can be read: none of the orders in these tests is run. */
    private static void reads(String text) {
        boolean isLaw = text.trim().matches("(?s)(turns|sinks|ends).*");
        Counted x = new Counted();
        int got = isLaw ? x.law(text) : x.orders(text);
        Check.due((isLaw ? "law " : "orders ") + text, got, 0);
        Check.due("fault of " + text, x.fault(), -1);
        Check.due("status of " + text, x.status(), 0);
        Check.due("the tape behind " + text, x.count(4), 0);
    }

    private static void faultOfLaw(String text, int place) {
        faulty(text, place, false);
    }

    private static void faultOfOrders(String text, int place) {
        faulty(text, place, true);
    }

    private static void faulty(String text, int place, boolean orders) {
        Counted x = new Counted();
        Check.due((orders ? "orders " : "law ") + text, orders ? x.orders(text) : x.law(text), -6);
        Check.due("fault of " + text, x.fault(), place);
        Check.due("status of " + text, x.status(), -6);
        Check.due("count(9) behind " + text, x.count(9), 1);
        Check.due("laws behind " + text, x.count(2), 0);
        Check.due("the tape behind " + text, x.count(4), 0);
    }

    private static void textsOfTheWholeTape() {
        Edge.says(7, "TEXTS are on a TAPE of at most 400 bytes.");
        Counted x = Counted.under("turns 1" + " ".repeat(391) + "+1", 5, 4);
        Check.due("the 400th byte is read", x.of(0, 5), 2);
        Check.due("orders of 400 bytes", x.orders("cut 1 of 0" + " ".repeat(382) + "times 1x"), -6);
        Check.due("their FAULT", x.fault(), 399);
        Check.due("orders of 400 bytes", x.orders("cut 1 of 0" + " ".repeat(382) + "times 13"), 13);
        x.lies(0, 4, 5);
        faultOfLaw("turns 1" + " ".repeat(392) + "+", 400);
        faultOfLaw("turns 1" + " ".repeat(391) + "+x", 399);
    }

    private static void tokensAreLongestRows() {
        Edge.says(7, "TOKENS: longest rows of letters a .. z, of digits, single other bytes, any blanks (32) between.");
        reads("turns1");
        reads("turns1if1=1");
        reads("turns top+2*many");
        reads("step0times20if1=2");
        reads("step top0 if1=2");
        faultOfLaw("turnstop", 0);
        faultOfLaw("tur ns 1", 0);
        faultOfLaw("turns topif 1=1", 6);
        faultOfLaw("turns 1 0", 8);
        faultOfLaw("turns 2top", 7);
        faultOfLaw("turns top2", 9);
        faultOfLaw("ends if 1=1or1=1and1=1nota", 22);
    }

    private static void lettersAndDigitsEnd() {
        Edge.says(7, "TOKENS: longest rows of letters a .. z, of digits, single other bytes");
        // ` and { are beside a and z, / and : beside 0 and 9, @ and [ beside A and Z.
        faultOfLaw("ends`", 4);
        faultOfLaw("ends{", 4);
        faultOfLaw("endsa", 0);
        faultOfLaw("endsz", 0);
        faultOfLaw("turns 1:", 7);
        faultOfLaw("turns 1/", 8);
        faultOfLaw("turns :", 6);
        faultOfLaw("turns /", 6);
        faultOfLaw("turns 10009", 6);
        faultOfLaw("turns 10000", 6);
        faultOfLaw("endsA", 4);
        faultOfLaw("endsZ", 4);
        faultOfLaw("Ends", 0);
        faultOfLaw("ENDS", 0);
        reads("turns 0123456789/1*0".replace("0123456789", "09+18+27+36+45"));
    }

    private static void otherBytesAreSingle() {
        Edge.says(7, "single other bytes, any blanks (32) between.");
        faultOfLaw("ends if 1==1", 10);
        faultOfLaw("ends if 1<=1", 10);
        faultOfLaw("ends if 1<>1", 10);
        faultOfLaw("turns 1++1", 8);
        faultOfLaw("turns 1**1", 8);
        reads("turns[[1]]");
        reads("ends if((1=1))");
        for (int sign : new int[] {0, 1, 9, 10, 13, 31, 33, 127, 128, 160, 200, 255}) {
            faultOfLaw("ends" + (char) sign, 4);
            faultOfLaw((char) sign + "ends", 0);
            faultOfOrders("step 0" + (char) sign, 6);
            faultOfOrders("step " + (char) sign + "0", 5);
        }
        // 128 more than a sign of the language is not that sign.
        faultOfLaw("ends" + (char) (' ' + 128), 4);
        faultOfLaw("turns 1" + (char) ('+' + 128) + "1", 7);
        faultOfLaw("turns " + (char) ('1' + 128), 6);
        faultOfLaw((char) ('e' + 128) + "nds", 0);
        faultOfLaw("ends" + (char) (';' + 128) + "ends", 4);
    }

    private static void blanksAreThirtyTwo() {
        Edge.says(7, "any blanks (32) between.");
        reads("   turns   1   +   2   if   1   =   1   ;   ends   ");
        reads(" ".repeat(396) + "ends");
        reads("ends" + " ".repeat(396));
        reads("ends" + " ".repeat(391) + ";ends");
        reads("  step  0  times  3  if  1  =  2  ");
    }

    private static void clausesOfLaws() {
        Edge.says(7, "CLAUSE {\";\" CLAUSE}, 12 at most (FAULT at the 13th's first TOKEN).");
        reads(law(1));
        reads(law(11));
        reads(law(12));
        faultOfLaw(law(13), 60);
        faultOfLaw(law(14), 60);
        faultOfLaw(law(12) + ";   ends", 63);
        faultOfLaw(law(12) + ";x", 60);
        faultOfLaw(law(12) + "; 7", 61);
        faultOfLaw(law(12) + ";", 60);
        faultOfLaw(law(12) + ";  ", 62);
        faultOfLaw(law(12) + " ends", 60);
        Counted x = Counted.with(5, 4);
        StringBuilder all = new StringBuilder("turns 1");
        for (int i = 2; i <= 12; i++) {
            all.append(";turns ").append(i);
        }
        x.law(all.toString());
        x.force(0);
        Check.due("the twelfth is asked", x.of(0, 5), 12);
    }

    private static void clausesOfOrders() {
        Edge.says(8, "CLAUSE {\";\" CLAUSE}, 12 at most (FAULT at the 13th's first TOKEN).");
        reads(orders(1));
        reads(orders(12));
        faultOfOrders(orders(13), 12 * 14);
        faultOfOrders(orders(12) + ";  step 0", 12 * 14 + 2);
        faultOfOrders(orders(12) + ";", 12 * 14);
        Counted x = Counted.with(5, 4);
        Check.due("the twelfth is run", x.orders(orders(11) + ";cut 1 of 0"), 1);
        Check.due("twelve are run", x.orders("cut 1 of 0" + ";cut 1 of 0".repeat(11)), 12);
    }

    private static void clausesAreParted() {
        Edge.says(7, "Of both languages: CLAUSE {\";\" CLAUSE}");
        faultOfLaw(";", 0);
        faultOfLaw("ends;", 5);
        faultOfLaw("ends; ", 6);
        faultOfLaw(";ends", 0);
        faultOfLaw("ends;;ends", 5);
        faultOfLaw("ends ends", 5);
        faultOfLaw("ends,ends", 4);
        faultOfOrders("step 0;", 7);
        faultOfOrders("step 0;;step 0", 7);
        faultOfOrders("step 0 step 0", 7);
    }

    private static void numbers() {
        Edge.says(7, "PART: NUMBER (to 1,000)");
        for (int number : new int[] {0, 1, 9, 10, 99, 100, 999, 1000}) {
            reads("turns " + number);
            reads("ends if " + number + "=" + number);
            reads("cut " + number + " of 0 if 1=2");
            Counted x = Counted.under("turns " + number, 5);
            Check.due("turns " + number, x.of(0, 5), number);
        }
        for (String number : new String[] {"1001", "1009", "1010", "1100", "2000", "9999", "10000"}) {
            faultOfLaw("turns " + number, 6);
            faultOfLaw("ends if 1=" + number, 10);
            faultOfOrders("cut " + number + " of 0", 4);
            faultOfOrders("step 0 if " + number + "=1", 10);
        }
        faultOfLaw("turns -1", 6);
    }

    private static void numbersOfManyDigits() {
        Edge.says(7, "PART: NUMBER (to 1,000)");
        // 2^32 and 2^64 more than a number that may be, and as many digits as the tape holds.
        for (String number : new String[] {"2147483648", "4294967296", "4294967297", "18446744073709551616",
            "18446744073709551617", "9".repeat(394), "1" + "0".repeat(393)}) {
            faultOfLaw("turns " + number, 6);
        }
        Counted x = Counted.under("turns " + "0".repeat(390) + "1000", 5);
        Check.due("1000 with zeros ahead", x.of(0, 5), 1000);
        Counted y = Counted.under("turns " + "0".repeat(394), 5);
        Check.due("0 with zeros ahead", y.of(0, 5), 0);
        faultOfLaw("turns " + "0".repeat(390) + "1001", 6);
    }

    private static void partsOfLaws() {
        Edge.says(7, "50 PARTS that are NUMBERS and words (FAULT at the 51st)");
        reads("turns 1" + "+1".repeat(48));
        reads("turns 1" + "+1".repeat(49));
        faultOfLaw("turns 1" + "+1".repeat(50), 6 + 100);
        faultOfLaw("turns 1" + "+1".repeat(49) + "+ 1", 6 + 101);
        faultOfLaw("turns 1" + "+1".repeat(51), 6 + 100);
        Counted x = Counted.under("turns 1" + "+1".repeat(49), 5);
        Check.due("all fifty are told", x.of(0, 5), 50);
        // Counted over the whole text, not by the clause.
        reads("turns 1" + "+1".repeat(24) + ";sinks 1" + "+1".repeat(24));
        faultOfLaw("turns 1" + "+1".repeat(24) + ";sinks 1" + "+1".repeat(25), 55 + 7 + 50);
        reads("turns 1" + "+1".repeat(47) + ";ends if 1=1");
        faultOfLaw("turns 1" + "+1".repeat(48) + ";ends if 1=1", 6 + 97 + 9 + 2);
        faultOfLaw("turns 1" + "+1".repeat(49) + ";ends if 1=1", 6 + 99 + 9);
        reads("turns 1" + "+1".repeat(49) + ";ends");
        reads("turns 1" + "*1".repeat(24) + " if 1" + "-1".repeat(23) + "=1");
    }

    private static void partsOfOrders() {
        Edge.says(8, "H, TIMES aside, NUMBERS and words count as PARTS.");
        String words = "+top 1".repeat(47);
        reads("step 0" + words + " if 1=2");
        faultOfOrders("step 0" + words + "+top 1 if 1=2", 6 + 48 * 6 + 6);
        faultOfOrders("step 0" + words + "+1+1 if 1=2", 6 + 47 * 6 + 4 + 4);
        // Twelve clauses of four PARTS each: with their TIMES they would be sixty.
        String often = "cut 1 of 0 times 20 if 1=2";
        reads(often + (";" + often).repeat(11));
        // Fifty PARTS; with their H they would be 68, with TIMES 69.
        reads("step 0" + "+many 0+claps 1+heaps+done+latest".repeat(9) + "+1+1 times 20 if 1=2");
        faultOfOrders("step 0" + "+many 0+claps 1+heaps+done+latest".repeat(9) + "+1+1+1 times 20 if 1=2", 6 + 9 * 33 + 6 + 15);
    }

    private static void partsAreNumbersAndWords() {
        Edge.says(7, "50 PARTS that are NUMBERS and words (FAULT at the 51st)");
        // A bracket is no such PART, what stands in it is.
        reads("turns [1]" + "+[1]".repeat(49));
        faultOfLaw("turns [1]" + "+[1]".repeat(50), 6 + 50 * 4 + 1);
        faultOfLaw("turns 1" + "+1".repeat(49) + "+top", 6 + 100);
        faultOfLaw("turns top" + "+top".repeat(50), 6 + 200);
        faultOfLaw("turns 1" + "+1".repeat(49) + "+[[top", 6 + 102);
        faultOfLaw("turns 1" + "+1".repeat(49) + "+;", 6 + 100);
        faultOfLaw("turns 1" + "+1".repeat(49) + "+", 6 + 100);
        faultOfOrders("step 0" + "+1".repeat(49) + "+top 0", 6 + 99);
        faultOfOrders("step 0" + "+1".repeat(49) + "+heaps", 6 + 99);
    }

    private static void brackets() {
        Edge.says(7, "8 brackets of both kinds within one another (FAULT at the 9th) at most.");
        reads("turns " + "[".repeat(7) + "1" + "]".repeat(7));
        reads("turns " + "[".repeat(8) + "1" + "]".repeat(8));
        faultOfLaw("turns " + "[".repeat(9) + "1" + "]".repeat(9), 6 + 8);
        faultOfLaw("turns " + "[".repeat(10) + "1" + "]".repeat(10), 6 + 8);
        faultOfLaw("turns " + "[".repeat(100), 6 + 8);
        faultOfLaw("turns " + "[ ".repeat(9), 6 + 16);
        reads("ends if " + "(".repeat(8) + "1=1" + ")".repeat(8));
        faultOfLaw("ends if " + "(".repeat(9) + "1=1" + ")".repeat(9), 8 + 8);
        faultOfLaw("ends if " + "(".repeat(300), 8 + 8);
        reads("step " + "[".repeat(8) + "1" + "]".repeat(8) + " if 1=2");
        faultOfOrders("step " + "[".repeat(9) + "1" + "]".repeat(9), 5 + 8);
        reads("step 0 if " + "(".repeat(8) + "1=2" + ")".repeat(8));
        faultOfOrders("step 0 if " + "(".repeat(9) + "1=2" + ")".repeat(9), 10 + 8);
    }

    private static void bracketsOfBothKinds() {
        Edge.says(7, "8 brackets of both kinds within one another (FAULT at the 9th) at most.");
        reads("ends if ((((" + "[[[[1]]]]=1))))");
        reads("ends if (((((((" + "[1]=1)))))))");
        faultOfLaw("ends if ((((((((" + "[1]=1))))))))", 8 + 8);
        faultOfLaw("ends if ((((" + "[[[[[1]]]]]=1))))", 8 + 8);
        faultOfLaw("ends if ((((" + "1=[[[[[1]]]]]))))", 8 + 4 + 2 + 4);
        reads("ends if " + "not(".repeat(8) + "1=1" + ")".repeat(8));
        faultOfLaw("ends if " + "not(".repeat(9) + "1=1" + ")".repeat(9), 8 + 8 * 4 + 3);
    }

    private static void bracketsBesideOneAnother() {
        Edge.says(7, "8 brackets of both kinds within one another");
        String deep = "[".repeat(8) + "1" + "]".repeat(8);
        reads("turns " + deep + "+" + deep + "*" + deep + ";sinks " + deep);
        reads("ends if " + "(1=1) or ".repeat(20) + "(1=1)");
        reads("ends if " + deep + "=" + deep);
        reads("ends if (" + deep.substring(1, 16) + "=1) and " + deep + "=1");
        reads("ends if " + "not ".repeat(90) + "1=1");
    }

    private static void faultAtTheEnd() {
        Edge.says(9, "FAULT: the first TOKEN that can't go on there (the end's: the TEXT's length).");
        faultOfLaw("turns", 5);
        faultOfLaw("turns ", 6);
        faultOfLaw("turns 1 +   ", 12);
        faultOfLaw("turns [1", 8);
        faultOfLaw("ends if", 7);
        faultOfLaw("ends if top", 11);
        faultOfLaw("ends if top=", 12);
        faultOfLaw("ends if top=1 or", 16);
        faultOfLaw("ends if (top=1", 14);
        faultOfLaw("turns" + " ".repeat(395), 400);
        faultOfLaw(" ".repeat(395) + "ends;", 400);
        faultOfOrders("cut 1", 5);
        faultOfOrders("cut 1 of", 8);
        faultOfOrders("swap 1", 6);
        faultOfOrders("swap 1 with", 11);
        faultOfOrders("swap 1 with 2", 13);
        faultOfOrders("swap 1 with 2 of", 16);
        faultOfOrders("step 0 times", 12);
        faultOfOrders("step top", 8);
        faultOfOrders("step top  ", 10);
        faultOfOrders("step" + " ".repeat(396), 400);
    }

    private static void faultAtTheFirst() {
        Edge.says(9, "FAULT: the first TOKEN that can't go on there");
        faultOfLaw("x", 0);
        faultOfLaw("   x y z", 3);
        faultOfLaw("ends x;y", 5);
        faultOfLaw(" ".repeat(399) + "x", 399);
        faultOfLaw(" ".repeat(395) + "ends=", 399);
        faultOfLaw("ends if 1=2=3 or ]", 11);
        faultOfOrders("x", 0);
        faultOfOrders("step 0;cut 1 on 0;x", 13);
        faultOfOrders(" ".repeat(393) + "step 0x", 399);
    }

    private static void grammarOfTests() {
        Edge.says(7, "PLAIN: \"not\" PLAIN | \"(\" TEST \")\" | SUM (\"<\" | \">\" | \"=\") SUM.");
        reads("ends if 1<2");
        reads("ends if 1>2");
        reads("ends if 1=2");
        reads("ends if not not(not 1=1 or 1=1)and 1=1 or 1=1");
        faultOfLaw("ends if", 7);
        faultOfLaw("ends if or 1=1", 8);
        faultOfLaw("ends if not", 11);
        faultOfLaw("ends if ()", 9);
        faultOfLaw("ends if (1)", 10);
        faultOfLaw("ends if (1=1]", 12);
        faultOfLaw("ends if (1=1))", 13);
        faultOfLaw("ends if (1=1)=1", 13);
        faultOfLaw("ends if (1+1)=1", 12);
        faultOfLaw("ends if [1=1]", 10);
        faultOfLaw("ends if 1=1 and and 1=1", 16);
        faultOfLaw("ends if 1=1 or not", 18);
        faultOfLaw("ends if 1=not 1=1", 10);
        faultOfLaw("ends if 1=1 not 1=1", 12);
        faultOfLaw("ends if 1=1 if 1=1", 12);
    }

    private static void grammarOfSums() {
        Edge.says(7, "PART: NUMBER (to 1,000) | \"[\" SUM \"]\" | a word, as told.");
        reads("turns 1+2-3*4/5%6");
        faultOfLaw("turns +1", 6);
        faultOfLaw("turns 1+", 8);
        faultOfLaw("turns 1%%2", 8);
        faultOfLaw("turns 1 top", 8);
        faultOfLaw("turns []", 7);
        faultOfLaw("turns [1)", 8);
        faultOfLaw("turns (1)", 6);
        faultOfLaw("turns 1]", 7);
        faultOfLaw("turns [1][1]", 9);
        faultOfLaw("turns 1^2", 7);
        faultOfLaw("turns first", 6);
        faultOfLaw("turns turns", 6);
        faultOfLaw("turns if", 6);
    }

    private static void grammarOfLaws() {
        Edge.says(7, "CLAUSE: ((\"turns\" | \"sinks\") SUM | \"ends\") [\"if\" TEST].");
        reads("turns 1");
        reads("sinks 1 if 1=1");
        reads("ends if 1=1");
        reads("ends");
        faultOfLaw("ends 1", 5);
        faultOfLaw("turns if 1=1", 6);
        faultOfLaw("turn 1", 0);
        faultOfLaw("turnss 1", 0);
        faultOfLaw("if 1=1", 0);
        faultOfLaw("1", 0);
        faultOfLaw("turns 1 times 2", 8);
        faultOfLaw("turns 1 sinks 1", 8);
    }

    private static void grammarOfOrders() {
        Edge.says(8, "ORDERS: CLAUSE: (\"step\" SUM | \"swap\" SUM \"with\" SUM \"of\" SUM | \"cut\" SUM \"of\" SUM) "
                + "[\"times\" TIMES] [\"if\" TEST].");
        reads("step 0 if 1=2");
        reads("swap 0 with 1 of 0 if 1=2");
        reads("cut 1 of 0 if 1=2");
        reads("cut 1 of 0 times 2 if 1=2");
        faultOfOrders("step", 4);
        faultOfOrders("step if 1=2", 5);
        faultOfOrders("step 0 of 0", 7);
        faultOfOrders("swap 0 of 0", 7);
        faultOfOrders("swap 0 with of 0", 12);
        faultOfOrders("swap 0 with 1 with 0", 14);
        faultOfOrders("cut 1 with 0", 6);
        faultOfOrders("cut of 0", 4);
        faultOfOrders("step 0 if 1=2 times 2", 14);
        faultOfOrders("step 0 times 2 times 2", 15);
        faultOfOrders("step 0 if 1=2 if 1=2", 14);
        faultOfOrders("steps 0", 0);
    }

    private static void wordsOfTheOtherLanguage() {
        Edge.says(7, "Words: \"top\" | \"second\" | \"third\" | \"under\" | \"many\" | \"last\" | \"heap\" | \"mood\".");
        for (String word : new String[] {"top", "second", "third", "under", "many", "last", "heap", "mood"}) {
            reads("turns " + word + "+" + word);
            faultOfLaw("turns " + word + "s", 6);
        }
        for (String word : new String[] {"heaps", "done", "latest", "claps"}) {
            faultOfLaw("turns " + word, 6);
            faultOfLaw("ends if 1=" + word, 10);
        }
        faultOfLaw("turns top 0", 10);
        faultOfLaw("step 0", 0);
        faultOfLaw("cut 1 of 0", 0);
        Edge.says(8, "Words: \"heaps\" | \"done\" | \"latest\" | \"top\" H | \"claps\" H | \"many\" H (H: a NUMBER 0 .. 5).");
        for (String word : new String[] {"second", "third", "under", "last", "heap", "mood", "clap"}) {
            faultOfOrders("step " + word, 5);
        }
        faultOfOrders("turns 1", 0);
        faultOfOrders("ends", 0);
    }

    private static void times() {
        Edge.says(8, "TIMES: a NUMBER 1 .. 20.");
        for (String number : new String[] {"1", "2", "19", "20", "01", "0020"}) {
            reads("step 0 times " + number + " if 1=2");
        }
        for (String number : new String[] {"0", "00", "21", "22", "100", "1000", "1001", "4294967297", "top 0", "[1]", "-1", "x"}) {
            faultOfOrders("step 0 times " + number, 13);
            faultOfOrders("step 0;swap 0 with 1 of 0 times " + number, 32);
        }
        faultOfOrders("step 0 times 1+1", 14);
        Counted x = Counted.with(2, 3, 4);
        Check.due("once", x.orders("cut 1 of 0 times 1"), 1);
        Check.due("twenty times", x.orders("cut 1 of 0 times 20"), 20);
        x.lies(0, 2, 3, 4);
    }

    private static void heapsOfWords() {
        Edge.says(8, "\"top\" H | \"claps\" H | \"many\" H (H: a NUMBER 0 .. 5).");
        for (String word : new String[] {"top", "claps", "many"}) {
            for (String number : new String[] {"0", "1", "4", "5", "005"}) {
                reads("step " + word + " " + number + " if 1=2");
                reads("step " + word + number + " if 1=2");
            }
            for (String number : new String[] {"6", "7", "10", "1000", "1001", "4294967296", "heaps", "[0]", "-1", "+", ";"}) {
                faultOfOrders("step " + word + " " + number, 6 + word.length());
            }
        }
        faultOfOrders("step heaps 0", 11);
        faultOfOrders("step done 0", 10);
        faultOfOrders("step latest 0", 12);
    }

    private static void lawWithoutTokens() {
        Edge.says(7, "-6 (blanks alone: FAULT at the end).");
        faultOfLaw("", 0);
        faultOfLaw(" ", 1);
        faultOfLaw(" ".repeat(20), 20);
        faultOfLaw(" ".repeat(399), 399);
        faultOfLaw(" ".repeat(400), 400);
    }

    private static void ordersWithoutTokens() {
        Edge.says(8, "-3 one can't be; -6 (as for law()).");
        faultOfOrders("", 0);
        faultOfOrders(" ", 1);
        faultOfOrders(" ".repeat(20), 20);
        faultOfOrders(" ".repeat(400), 400);
    }

    private static void lawNumbers() {
        Edge.says(7, "LAWS, 6 at most");
        Counted x = Counted.with(5, 4);
        x.image(0);
        for (int round = 0; round < 2; round++) {
            for (int i = 0; i < 6; i++) {
                int turns = 10 * round + i;
                Check.due("law " + i, x.law("turns " + turns), i);
                Check.due("count(2)", x.count(2), i + 1);
                Check.due("it is not in force yet", x.count(10), -1);
                Check.due("the next one is not yet", x.force(i + 1), -2);
            }
            Check.due("no seventh", x.law("ends"), -5);
            for (int i = 0; i < 6; i++) {
                x.force(i);
                Check.due("each is its own", x.of(0, 5), 10 * round + i);
            }
            x.back(0);
            Check.due("numbers begin again", x.count(2), 0);
            Check.due("none is in force", x.count(10), -1);
        }
    }

    private static void lawWithoutRoom() {
        Edge.says(7, "-5 (ahead of reading it; the TAPE is empty then, too)");
        Untouched.by(Scene::sixLaws, "law() of a seventh", x -> {
            x.end(0);
            return x.law("ends");
        }).tapeIsEmpty().refused(-5);
        Untouched.by(Scene::sixLaws, "law() of what can't be read, without room", x -> x.law()).tapeIsEmpty().refused(-5);
        Untouched.by(Scene::sixLaws, "law() of nothing, without room", x -> {
            x.end(0);
            return x.law();
        }).tapeIsEmpty().refused(-5);
    }

    private static void lawThatCannotBe() {
        Edge.says(7, "The TAPE, which is empty then, becomes a LAW: its number.");
        Untouched.by(Scene::rich, "law() of orders", x -> x.law()).tapeIsEmpty().fault(0).refused(-6);
        Untouched.by(Scene::rich, "law() with a fault behind a clause", x -> {
            x.end(0);
            return x.law("turns 1;sinks 1 1");
        }).tapeIsEmpty().fault(16).refused(-6);
        Untouched.by(Scene::sixteenChanges, "law() of nothing", x -> {
            x.end(0);
            return x.law();
        }).tapeIsEmpty().fault(0).refused(-6);
    }

    private static void lawLeavesWhatCanBeUndone() {
        Edge.says(7, "The TAPE, which is empty then, becomes a LAW: its number.");
        Counted x = Counted.with(3, 1, 2);
        x.cut(0, 1);
        Check.due("a law", x.law("ends"), 0);
        Check.due("bytes", x.count(4), 0);
        Check.due("no second one of the same bytes", x.law(), -6);
        Check.due("what can be undone", x.count(3), 1);
        Check.due("undo", x.undo(), 2);
    }

    private static void faultAtFirst() {
        Edge.says(9, "FAULT of the latest law(), orders() that read a TEXT: its place; NONE without.");
        Counted x = new Counted();
        Check.due("no text was read", x.fault(), -1);
        x.heap();
        Check.due("a row is no text", x.fault(), -1);
        x.law("x");
        Check.due("the first byte", x.fault(), 0);
        x.law("ends");
        Check.due("one that can be", x.fault(), -1);
        x.orders(" x");
        Check.due("of orders", x.fault(), 1);
        Check.due("one that can be read, but not run", x.orders("step 0"), -3);
        Check.due("has no fault", x.fault(), -1);
        x.orders("x");
        Check.due("one of which none is run", x.orders("step 0 if 1=2"), 0);
        Check.due("has no fault", x.fault(), -1);
    }

    private static void faultStays() {
        Edge.says(9, "FAULT of the latest law(), orders() that read a TEXT");
        Counted x = Scene.sixLaws();
        x.end(0);
        x.orders("cut 1 of ?");
        Check.due("fault", x.fault(), 9);
        Check.due("no room: no text is read", x.law("ends"), -5);
        Check.due("fault", x.fault(), 9);
        x.heap(14);
        x.step(0);
        x.force(9);
        x.undo();
        x.feed(0, 0, 0, 0, 0);
        x.end(0);
        x.back(0);
        Check.due("nothing else reads one", x.fault(), 9);
        Check.due("room again", x.law("ends"), 2);
        Check.due("fault", x.fault(), -1);
    }
}
