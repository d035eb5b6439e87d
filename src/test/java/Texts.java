import java.util.Random;

/** Makes laws and orders by chance: most can be read, some are spoilt. */
final class Texts {
    private static final String[] LAW_WORDS = {"top", "second", "third", "under", "many", "last", "heap", "mood"};
    private static final String[] ORDER_WORDS = {"heaps", "done", "latest", "top ", "claps ", "many "};
    private static final String[] SPOILS = {"if", "or", "and", "not", "(", ")", "[", "]", ";", "turns", "sinks", "ends",
        "step", "swap", "cut", "with", "of", "times", "top", "many", "1001", "0", "21", "6", "+", "-", "*", "/", "%", "<",
        "=", ">", "x", "A", "", " ", "\u0000", "\u00e9", "000000000000000000000007", "99999999999999999999"};

    private final Random chance;
    private final boolean orders;

    private Texts(Random chance, boolean orders) {
        this.chance = chance;
        this.orders = orders;
    }

    static String make(Random chance, boolean orders) {
        Texts t = new Texts(chance, orders);
        StringBuilder all = new StringBuilder();
        int clauses = chance.nextInt(20) == 0 ? 11 + chance.nextInt(3) : 1 + chance.nextInt(4);
        for (int i = 0; i < clauses; i++) {
            all.append(i == 0 ? "" : t.gap() + ";" + t.gap()).append(orders ? t.order() : t.rule());
        }
        String text = all.toString();
        if (chance.nextInt(6) == 0) {
            text = t.spoil(text);
        }
        return text.length() > 400 ? text.substring(0, 400) : text;
    }

    private String gap() {
        return " ".repeat(chance.nextInt(3) / 2);
    }

    private String spoil(String text) {
        int at = chance.nextInt(text.length() + 1);
        int till = Math.min(text.length(), at + chance.nextInt(4));
        return text.substring(0, at) + SPOILS[chance.nextInt(SPOILS.length)] + text.substring(till);
    }

    private String rule() {
        int kind = chance.nextInt(5);
        String test = chance.nextInt(4) == 0 ? "" : " if " + test(chance.nextInt(3));
        if (kind == 0) {
            return "ends" + test;
        }
        return (kind < 3 ? "turns " : "sinks ") + small() + test;
    }

    private String order() {
        String often = chance.nextInt(3) == 0 ? " times " + (1 + chance.nextInt(chance.nextInt(4) == 0 ? 20 : 4)) : "";
        String test = chance.nextInt(3) == 0 ? " if " + test(chance.nextInt(3)) : "";
        String heap = chance.nextInt(12) == 0 ? sum(1) : "" + chance.nextInt(chance.nextInt(4) == 0 ? 4 : 2);
        switch (chance.nextInt(4)) {
            case 0:
                return "swap " + small() + " with " + small() + " of " + heap + often + test;
            case 1:
                return "cut " + (chance.nextInt(3) == 0 ? small() : "1") + " of " + heap + often + test;
            default:
                return "step " + heap + often + test;
        }
    }

    /** A sum that is often of use as a number of cards. */
    private String small() {
        switch (chance.nextInt(6)) {
            case 0:
                return "" + chance.nextInt(4);
            case 1:
                return "[" + sum(1) + "]%4" + (chance.nextBoolean() ? "" : "+1");
            case 2:
                return orders ? "[many 0-1]" : "many-" + chance.nextInt(3);
            case 3:
                return word() + "%[" + word() + "+1]";
            case 4:
                return orders ? "0" : "[top+" + chance.nextInt(5) + "]%many+" + chance.nextInt(2);
            default:
                return sum(2);
        }
    }

    private String word() {
        if (!orders) {
            return LAW_WORDS[chance.nextInt(LAW_WORDS.length)];
        }
        String word = ORDER_WORDS[chance.nextInt(ORDER_WORDS.length)];
        return word.endsWith(" ") ? word + chance.nextInt(chance.nextInt(3) == 0 ? 6 : 2) : word;
    }

    private String number() {
        int[] some = {0, 1, 2, 3, 5, 7, 13, 100, 999, 1000};
        return "" + some[chance.nextInt(some.length)];
    }

    private String sum(int depth) {
        StringBuilder all = new StringBuilder(term(depth));
        for (int i = chance.nextInt(3); i > 0; i--) {
            all.append(gap()).append(chance.nextBoolean() ? "+" : "-").append(gap()).append(term(depth));
        }
        return all.toString();
    }

    private String term(int depth) {
        StringBuilder all = new StringBuilder(part(depth));
        for (int i = chance.nextInt(5) / 2; i > 0; i--) {
            all.append("*/%*".charAt(chance.nextInt(4))).append(part(depth));
        }
        return all.toString();
    }

    private String part(int depth) {
        int kind = chance.nextInt(5);
        if (kind == 0 && depth > 0) {
            int deep = chance.nextInt(12) == 0 ? 7 + chance.nextInt(3) : 1;
            return "[".repeat(deep) + sum(depth - 1) + "]".repeat(deep);
        }
        return kind < 3 ? number() : word();
    }

    private String test(int depth) {
        StringBuilder all = new StringBuilder(plain(depth));
        for (int i = chance.nextInt(3); i > 0; i--) {
            all.append(chance.nextBoolean() ? " or " : " and ").append(plain(depth));
        }
        return all.toString();
    }

    private String plain(int depth) {
        int kind = chance.nextInt(6);
        if (kind == 0) {
            return "not ".repeat(1 + chance.nextInt(3)) + plain(depth);
        }
        if (kind == 1 && depth > 0) {
            return "(" + test(depth - 1) + ")";
        }
        String a = chance.nextInt(2) == 0 ? word() : sum(1);
        String b = chance.nextInt(2) == 0 ? number() : sum(1);
        return a + gap() + "<>=".charAt(chance.nextInt(3)) + gap() + b;
    }
}
