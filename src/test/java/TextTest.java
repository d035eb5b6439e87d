/** Term II and promises 7 to 9: what can be read, where a fault is, what is counted. */
public final class TextTest {
    public static void main(String[] args) {
        lawsThatCanBe();
        lawsThatCannot();
        ordersThatCanBe();
        ordersThatCannot();
        clauses();
        parts();
        brackets();
        numbers();
        room();
        faultStays();
        Check.finish("TextTest");
    }

    private static void lawsThatCanBe() {
        for (String text : new String[] {"ends", "turns 1", "sinks top", "  turns   1  ", "turns1", "turns top;ends",
            "turns[1]", "turns 1+2*3-4/5%6", "ends if top=1", "ends if not top=1", "ends if not not not top<1",
            "ends if (top=1)", "ends if((top=1)and(top<2)or top>3)", "ends iftop=1".replace("iftop", "if top"),
            "turns second+third+under+many+last+heap+mood", "ends if 1=1 or 2=2 and 3=3", "turns 2top".replace("2top", "2*top"),
            "turns [[[[[[[[1]]]]]]]]", "turns 1 if[1]=[1]"}) {
            Check.readable(false, text);
        }
        Check.readable(false, Check.times(" ", 396) + "ends");
        Check.readable(false, "ends" + Check.times(" ", 396));
    }

    private static void lawsThatCannot() {
        Check.faulty(false, "", 0);
        Check.faulty(false, "   ", 3);
        Check.faulty(false, Check.times(" ", 400), 400);
        Check.faulty(false, "turns", 5);
        Check.faulty(false, "turns  ", 7);
        Check.faulty(false, "Turns 1", 0);
        Check.faulty(false, "turn 1", 0);
        Check.faulty(false, "turnsx 1", 0);
        Check.faulty(false, "turnstop", 0);
        Check.faulty(false, "step 0", 0);
        Check.faulty(false, "turns 1 2", 8);
        Check.faulty(false, "turns top top", 10);
        Check.faulty(false, "turns 2top", 7);
        Check.faulty(false, "turns done", 6);
        Check.faulty(false, "turns top0", 9);
        Check.faulty(false, "turns topz", 6);
        Check.faulty(false, "turns topa", 6);
        Check.faulty(false, "turns top`", 9);
        Check.faulty(false, "turns top{", 9);
        Check.faulty(false, "turns 1/", 8);
        Check.faulty(false, "turns 1:", 7);
        Check.faulty(false, "turns 10009", 6);
        Check.faulty(false, "turns 1!", 7);
        Check.faulty(false, "turns -1", 6);
        Check.faulty(false, "turns 1+", 8);
        Check.faulty(false, "turns 1+*2", 8);
        Check.faulty(false, "turns (1)", 6);
        Check.faulty(false, "turns [1", 8);
        Check.faulty(false, "turns [1)", 8);
        Check.faulty(false, "turns []", 7);
        Check.faulty(false, "turns 1]", 7);
        Check.faulty(false, "ends 1", 5);
        Check.faulty(false, "ends;", 5);
        Check.faulty(false, ";ends", 0);
        Check.faulty(false, "ends;;ends", 5);
        Check.faulty(false, "ends if", 7);
        Check.faulty(false, "ends if top", 11);
        Check.faulty(false, "ends if top=", 12);
        Check.faulty(false, "ends if top==1", 12);
        Check.faulty(false, "ends if top<=1", 12);
        Check.faulty(false, "ends if 1=1=1", 11);
        Check.faulty(false, "ends if [top=1]", 12);
        Check.faulty(false, "ends if (top)", 12);
        Check.faulty(false, "ends if (top=1", 14);
        Check.faulty(false, "ends if (top=1]", 14);
        Check.faulty(false, "ends if not", 11);
        Check.faulty(false, "ends if top=1 or", 16);
        Check.faulty(false, "ends if top=1 and or", 18);
        Check.faulty(false, "ends if top=1 if top=1", 14);
        Check.faulty(false, "ends if top=1 times 2", 14);
        Check.faulty(false, "turns 1 times 2", 8);
        Check.faulty(false, "ends\tif top=1", 4);
        Check.faulty(false, "ends\u0000", 4);
        Check.faulty(false, "ends if top=\u00e9", 12);
        Check.faulty(false, "ends if top=1\u00ff", 13);
    }

    private static void ordersThatCanBe() {
        for (String text : new String[] {"step 0 if 1=2", "swap 0 with 1 of 2 if 1=2", "cut 1 of 0 if 1=2", "step 0 times 1 if 1=2",
            "cut heaps+done*latest of top 0+claps 5-many 3 times 20 if 0=1", "step top 0 if 0>0", "step top0 if 0>0",
            "step many 00005 if 0>0", "step 0times20 if 0>0", "step 0 times 00007 if 0>0"}) {
            Check.readable(true, text);
        }
    }

    private static void ordersThatCannot() {
        Check.faulty(true, "", 0);
        Check.faulty(true, "  ", 2);
        Check.faulty(true, "ends", 0);
        Check.faulty(true, "turns 1", 0);
        Check.faulty(true, "step", 4);
        Check.faulty(true, "step 0 of 1", 7);
        Check.faulty(true, "step 0 with 1", 7);
        Check.faulty(true, "swap 0 of 1", 7);
        Check.faulty(true, "swap 0 with 1", 13);
        Check.faulty(true, "swap 0 with 1 with 2", 14);
        Check.faulty(true, "swap 0 with of 1", 12);
        Check.faulty(true, "cut 0", 5);
        Check.faulty(true, "cut 0 with 1", 6);
        Check.faulty(true, "cut 0 of", 8);
        Check.faulty(true, "cut of 0", 4);
        Check.faulty(true, "step 0 times", 12);
        Check.faulty(true, "step 0 times 0", 13);
        Check.faulty(true, "step 0 times 21", 13);
        Check.faulty(true, "step 0 times 1+1", 14);
        Check.faulty(true, "step 0 times top 0", 13);
        Check.faulty(true, "step 0 times 1 times 1", 15);
        Check.faulty(true, "step 0 if 1=1 times 2", 14);
        Check.faulty(true, "step top", 8);
        Check.faulty(true, "step top 6", 9);
        Check.faulty(true, "step top [1]", 9);
        Check.faulty(true, "step top heaps", 9);
        Check.faulty(true, "step claps 6", 11);
        Check.faulty(true, "step many 1000000000000", 10);
        Check.faulty(true, "step heaps 0", 11);
        Check.faulty(true, "step second", 5);
        Check.faulty(true, "step last", 5);
        Check.faulty(true, "step 0;", 7);
    }

    private static void clauses() {
        Check.readable(false, "ends" + Check.times(";ends", 11));
        Check.faulty(false, "ends" + Check.times(";ends", 12), 60);
        Check.faulty(false, "ends" + Check.times(";ends", 11) + ";   x", 63);
        Check.faulty(false, "ends" + Check.times(";ends", 11) + ";", 60);
        Check.readable(true, "step 0 if 1=2" + Check.times(";step 0 if 1=2", 11));
        Check.faulty(true, "step 0 if 1=2" + Check.times(";step 0 if 1=2", 12), 168);
    }

    private static void parts() {
        Check.readable(false, "turns 1" + Check.times("+1", 49));
        Check.faulty(false, "turns 1" + Check.times("+1", 50), 106);
        Check.faulty(false, "turns 1" + Check.times("+1", 49) + "+top", 106);
        Check.faulty(false, "turns 1" + Check.times("+1", 49) + "+[1]", 107);
        Check.faulty(false, "turns 1" + Check.times("+1", 48) + ";ends if 1=1", 114);
        Check.readable(false, "turns 1" + Check.times("+1", 47) + ";ends if 1=1");
        Check.readable(true, "step 0" + Check.times("+top 1", 49) + " times 20");
        Check.faulty(true, "step 0" + Check.times("+top 1", 50), 6 + 49 * 6 + 1);
        Check.faulty(true, "step 0" + Check.times("+top 1", 49) + " times 20 if 1=1", 6 + 49 * 6 + 13);
        Check.readable(true, "step 0 times 1" + Check.times(";step 0 times 1", 11));
    }

    private static void brackets() {
        Check.readable(false, "turns " + Check.times("[", 8) + "1" + Check.times("]", 8));
        Check.faulty(false, "turns " + Check.times("[", 9) + "1" + Check.times("]", 9), 14);
        Check.readable(false, "ends if " + Check.times("(", 8) + "1=1" + Check.times(")", 8));
        Check.faulty(false, "ends if " + Check.times("(", 9) + "1=1" + Check.times(")", 9), 16);
        Check.readable(false, "ends if ((((" + "[[[[1]]]]=1" + "))))");
        Check.faulty(false, "ends if (((((" + "[[[[1]]]]=1" + ")))))", 16);
        Check.readable(false, "turns [[[[[[[[1]]]]]]]]+[[[[[[[[1]]]]]]]]");
        Check.readable(false, "ends if " + Check.times("not ", 90) + "1=1");
        Check.readable(false, "ends if " + Check.times("not(", 8) + "1=1" + Check.times(")", 8));
        Check.faulty(false, "ends if " + Check.times("not(", 9) + "1=1" + Check.times(")", 9), 8 + 8 * 4 + 3);
    }

    private static void numbers() {
        Check.readable(false, "turns 1000");
        Check.faulty(false, "turns 1001", 6);
        Check.readable(false, "turns 0");
        Check.readable(false, "turns " + Check.times("0", 390) + "1000");
        Check.faulty(false, "turns " + Check.times("9", 394), 6);
        Check.faulty(false, "turns 4294967297", 6);
        Check.faulty(false, "turns 18446744073709551617", 6);
    }

    private static void room() {
        Counted x = new Counted();
        for (int i = 0; i < 6; i++) {
            Check.due("law " + i, x.law("turns " + i), i);
        }
        Check.due("count(2)", x.count(2), 6);
        Check.due("the seventh", x.law("ends"), -5);
        Check.due("status", x.status(), -5);
        Check.due("the tape is empty then, too", x.count(4), 0);
        Check.due("ahead of reading", x.law("x"), -5);
        Check.due("fault of the one that was read", x.fault(), -1);
        Check.due("count(8)", x.count(8), 2);
        Check.due("count(9)", x.count(9), 0);
        for (int i = 0; i < 6; i++) {
            x.force(i);
            if (i == 0) {
                x.heap(7, 1);
            }
            Check.due("each law is its own", x.of(0, 5), i);
        }
    }

    private static void faultStays() {
        Counted x = new Counted();
        Check.due("a law that can't be", x.law("turns x"), -6);
        Check.due("fault", x.fault(), 6);
        x.heap();
        x.step(0);
        x.force(3);
        Check.due("fault stays", x.fault(), 6);
        Check.due("a law that can be", x.law("ends"), 0);
        Check.due("fault is gone", x.fault(), -1);
        Check.due("orders that can't be", x.orders("cut x"), -6);
        Check.due("fault of orders", x.fault(), 4);
        Check.due("orders that can be read, but not run", x.orders("step 0"), -3);
        Check.due("fault is gone", x.fault(), -1);
        Check.due("orders that can't be", x.orders("cut x"), -6);
        for (int i = 1; i < 6; i++) {
            x.law("ends");
        }
        Check.due("fault is gone", x.fault(), -1);
        Check.due("orders that can't be", x.orders("cut x"), -6);
        Check.due("no room", x.law("ends"), -5);
        Check.due("no text was read: fault stays", x.fault(), 4);
    }
}
