/** What the tests share: due answers, what can and can't be read, the exit code at the end. */
final class Check {
    private static int wrong = 0;
    private static int asked = 0;
    private static String about = "";

    private Check() {
    }

    /** What the checks from here on are about: told with each that fails. */
    static void about(String sentence) {
        about = sentence;
    }

    private static void tell(String what) {
        wrong++;
        System.out.println(about.isEmpty() ? what : about + "\n    " + what);
    }

    static void due(String call, long got, long want) {
        asked++;
        if (got != want) {
            tell(call + " answered " + got + ", due is " + want);
        }
    }

    static void holds(String what, boolean so) {
        asked++;
        if (!so) {
            tell("not so: " + what);
        }
    }

    static void finish(String name) {
        System.out.println(name + ": " + asked + " asked, " + wrong + " wrong");
        if (wrong != 0) {
            System.exit(1);
        }
    }

    /** A text that must be refused with its fault at a place. */
    static void faulty(boolean orders, String text, int place) {
        Counted x = new Counted();
        due((orders ? "orders " : "law ") + text, orders ? x.orders(text) : x.law(text), -6);
        due("fault of " + text, x.fault(), place);
        due("status of " + text, x.status(), -6);
        due("tape behind " + text, x.count(4), 0);
    }

    static void readable(boolean orders, String text) {
        Counted x = new Counted();
        int got = orders ? x.orders(text) : x.law(text);
        holds((orders ? "orders " : "law ") + text + " is read", got != -6);
        due("fault of " + text, x.fault(), -1);
    }

    static String times(String part, int n) {
        return part.repeat(n);
    }
}
