/** What the tests share: due answers, texts and cards put on the tape, the exit code at the end. */
final class Check {
    private static int wrong = 0;
    private static int asked = 0;
    private static String about = "";

    private Check() {
    }

    /** What the checks from here on are about: told with each that fails. */
    static void about(String sentence) {
        about = sentence;
    }

    private static void tell(String what) {
        wrong++;
        System.out.println(about.isEmpty() ? what : about + "\n    " + what);
    }

    static void due(String call, long got, long want) {
        asked++;
        if (got != want) {
            tell(call + " answered " + got + ", due is " + want);
        }
    }

    static void holds(String what, boolean so) {
        asked++;
        if (!so) {
            tell("not so: " + what);
        }
    }

    static void finish(String name) {
        System.out.println(name + ": " + asked + " asked, " + wrong + " wrong");
        if (wrong != 0) {
            System.exit(1);
        }
    }

    /** Puts bytes behind the tape, which ends behind them; the tape must have room for whole twenties. */
    static void put(TopSays x, int... bytes) {
        int length = x.count(4);
        for (int from = 0; from < bytes.length; from += 20) {
            int[] five = new int[5];
            for (int i = 0; i < 20; i++) {
                int b = from + i < bytes.length ? bytes[from + i] & 255 : 0;
                five[i / 4] = five[i / 4] << 8 | b;
            }
            due("feed", x.feed(five[0], five[1], five[2], five[3], five[4]), length + from + 20);
        }
        due("end", x.end(length + bytes.length), length + bytes.length);
    }

    static void put(TopSays x, String text) {
        int[] bytes = new int[text.length()];
        for (int i = 0; i < bytes.length; i++) {
            bytes[i] = text.charAt(i);
        }
        put(x, bytes);
    }

    static int heap(TopSays x, int... cards) {
        put(x, cards);
        return x.heap();
    }

    static int law(TopSays x, String text) {
        put(x, text);
        return x.law();
    }

    static int orders(TopSays x, String text) {
        put(x, text);
        return x.orders();
    }

    /** A new table with one heap. */
    static TopSays with(int... cards) {
        TopSays x = new TopSays();
        due("heap", heap(x, cards), 0);
        return x;
    }

    /** A new table with one heap, and a law in force. */
    static TopSays under(String law, int... cards) {
        TopSays x = with(cards);
        due("law " + law, law(x, law), 0);
        due("force", x.force(0), -1);
        return x;
    }

    static void cards(TopSays x, int heap, int... cards) {
        due("how many cards of heap " + heap, x.of(heap, 0), cards.length);
        for (int i = 0; i < cards.length; i++) {
            due("card " + i + " of heap " + heap, x.of(heap, 7 + i), cards[i]);
        }
    }

    /** A text that must be refused with its fault at a place. */
    static void faulty(boolean orders, String text, int place) {
        TopSays x = new TopSays();
        put(x, text);
        due((orders ? "orders " : "law ") + text, orders ? x.orders() : x.law(), -6);
        due("fault of " + text, x.fault(), place);
        due("status of " + text, x.status(), -6);
        due("tape behind " + text, x.count(4), 0);
    }

    static void readable(boolean orders, String text) {
        TopSays x = new TopSays();
        put(x, text);
        int got = orders ? x.orders() : x.law();
        holds((orders ? "orders " : "law ") + text + " is read", got != -6);
        due("fault of " + text, x.fault(), -1);
    }

    static String times(String part, int n) {
        return part.repeat(n);
    }
}
