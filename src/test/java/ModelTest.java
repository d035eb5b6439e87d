import java.util.Random;

/** Runs by chance (always the same ones) on the class and on the model: every answer must be alike. */
public final class ModelTest {
    /** Calls of one turn of a run at most, those that put a text of 400 bytes on the tape among them. */
    private static final int CALLS_AT_ONCE = 32;

    private final Random chance;
    private final Counted x = new Counted();
    private final Model m = new Model();
    private final StringBuilder told = new StringBuilder();
    private final long seed;
    private boolean alike = true;

    private ModelTest(long seed) {
        this.seed = seed;
        chance = new Random(seed);
    }

    public static void main(String[] args) {
        int runs = args.length > 0 ? Integer.parseInt(args[0]) : 2000;
        long first = args.length > 1 ? Long.parseLong(args[1]) : 1;
        int wrong = 0;
        for (long seed = first; seed < first + runs && wrong < 5; seed++) {
            ModelTest run = new ModelTest(seed);
            run.go();
            if (!run.alike) {
                wrong++;
                System.out.println(run.told);
            }
        }
        Check.due("runs unlike the model", wrong, 0);
        Check.finish("ModelTest");
    }

    private void same(String call, int got, int want) {
        told.append(call).append(" = ").append(got).append('\n');
        if (got != want && alike) {
            alike = false;
            told.insert(0, "seed " + seed + "\n");
            told.append("   due is ").append(want).append('\n');
        }
    }

    private void go() {
        for (int i = 0; x.calls() + CALLS_AT_ONCE <= Counted.MOST_CALLS && alike; i++) {
            call(i);
            if (alike) {
                same("status()", x.status(), m.status);
            }
        }
    }

    private void put(int[] bytes) {
        if (chance.nextInt(8) != 0) {
            same("end(0)", x.end(0), m.end(0));
        }
        int from = m.tape.size();
        for (int at = 0; at < bytes.length; at += 20) {
            int[] f = new int[5];
            for (int i = 0; i < 20; i++) {
                f[i / 4] = f[i / 4] << 8 | (at + i < bytes.length ? bytes[at + i] & 255 : 0);
            }
            same("feed", x.feed(f[0], f[1], f[2], f[3], f[4]), m.feed(f[0], f[1], f[2], f[3], f[4]));
        }
        int till = from + bytes.length;
        same("end(" + till + ")", x.end(till), m.end(till));
    }

    private void putText(boolean orders) {
        String text = Texts.make(chance, orders);
        told.append("text: ").append(text).append('\n');
        int[] bytes = new int[text.length()];
        for (int i = 0; i < bytes.length; i++) {
            bytes[i] = text.charAt(i);
        }
        put(bytes);
    }

    private void putCards() {
        int n = chance.nextInt(5) == 0 ? 1 + chance.nextInt(14) : 2 + chance.nextInt(5);
        int high = chance.nextInt(4) == 0 ? 14 : n;
        int[] cards = new int[n];
        for (int i = 0; i < n; i++) {
            cards[i] = chance.nextInt(40) == 0 ? chance.nextInt(256) : 1 + chance.nextInt(high);
            cards[i] = chance.nextInt(10) == 0 ? 0 : cards[i];
        }
        if (chance.nextBoolean()) {
            int lowest = chance.nextInt(3) == 0 ? 0 : 1;
            for (int i = 0; i < n; i++) {
                int j = chance.nextInt(i + 1);
                cards[i] = cards[j];
                cards[j] = i + lowest;
            }
        }
        told.append("cards: ").append(java.util.Arrays.toString(cards)).append('\n');
        put(cards);
    }

    /** A number from low to high, seldom one beyond them. */
    private int some(int low, int high) {
        switch (chance.nextInt(30)) {
            case 0:
                return low - 1;
            case 1:
                return high + 1;
            case 2:
                int[] far = {Integer.MIN_VALUE, Integer.MAX_VALUE, -1, 1000, -1000, 65536, -2};
                return far[chance.nextInt(far.length)];
            default:
                return low + chance.nextInt(high - low + 1);
        }
    }

    private int heap() {
        return some(0, Math.max(0, m.now.heaps.size() - 1));
    }

    private void call(int i) {
        int kind = i < 3 ? 2 : chance.nextInt(40);
        if (kind < 16) {
            change(kind);
        } else if (kind < 26) {
            look(kind);
        } else {
            think(kind);
        }
    }

    private void change(int kind) {
        int h = heap();
        int a = some(0, 6);
        int b = some(0, 6);
        switch (kind) {
            case 0: case 1:
                putText(false);
                same("law()", x.law(), m.law());
                break;
            case 2:
                if (m.now.heaps.size() < 4 || chance.nextInt(5) == 0) {
                    putCards();
                    same("heap()", x.heap(), m.heap());
                }
                break;
            case 3: case 4: case 5:
                putText(true);
                same("orders()", x.orders(), m.orders());
                break;
            case 6: case 7:
                int law = chance.nextInt(4) == 0 ? -1 : some(0, Math.max(0, m.now.laws.size() - 1));
                same("force(" + law + ")", x.force(law), m.force(law));
                break;
            case 8: case 9:
                same("step(" + h + ")", x.step(h), m.told(m.doStep(h)));
                break;
            case 10:
                same("swap(" + h + "," + a + "," + b + ")", x.swap(h, a, b), m.told(m.doSwap(h, a, b)));
                break;
            case 11:
                same("cut(" + h + "," + a + ")", x.cut(h, a), m.told(m.doCut(h, a)));
                break;
            case 12:
                same("undo()", x.undo(), m.undo());
                break;
            case 13:
                int what = chance.nextInt(3) == 0 ? some(0, 1) : 0;
                int value = chance.nextBoolean() ? some(0, 9) : some(1, 300);
                same("terms(" + what + "," + value + ")", x.terms(what, value), m.terms(what, value));
                break;
            case 14:
                int k = some(0, 1);
                same("image(" + k + ")", x.image(k), m.image(k));
                break;
            default:
                int n = some(0, 1);
                same("back(" + n + ")", x.back(n), m.back(n));
        }
    }

    private void look(int kind) {
        int h = heap();
        int a = some(0, 12);
        switch (kind) {
            case 16: case 17: case 18: case 19: case 20:
                for (int w = 0; w < 14; w++) {
                    same("of(" + h + "," + w + ")", x.of(h, w), m.of(h, w));
                }
                int far = some(0, 25);
                same("of(" + h + "," + far + ")", x.of(h, far), m.of(h, far));
                break;
            case 21: case 22:
                same("count(" + a + ")", x.count(a), m.count(a));
                break;
            case 23:
                same("fault()", x.fault(), m.fault);
                break;
            case 24:
                same("stopped()", x.stopped(), m.stopped);
                break;
            default:
                int what = some(0, 16);
                same("drawn(" + what + ")", x.drawn(what), m.drawn(what));
        }
    }

    private void think(int kind) {
        int h = heap();
        int place = some(0, 6);
        int what = some(0, 2);
        int which = chance.nextBoolean() ? -1 : some(0, 5);
        switch (kind) {
            case 26: case 27:
                same("goes(" + h + "," + what + ")", x.goes(h, what), m.goes(h, what));
                break;
            case 28:
                int n = chance.nextBoolean() ? some(0, 9) : some(0, 300);
                same("after(" + h + "," + n + "," + place + ")", x.after(h, n, place), m.after(h, n, place));
                break;
            case 29:
                int few = chance.nextInt(30) == 0 ? some(1, 7) : some(1, 5);
                same("longest(" + few + "," + place + ")", x.longest(few, place), m.longest(few, place));
                break;
            case 30:
                int so = chance.nextInt(30) == 0 ? some(1, 7) : some(1, 5);
                int w = some(0, 3);
                same("orderly(" + so + "," + w + ")", x.orderly(so, w), m.orderly(so, w));
                break;
            case 31: case 32:
                same("to(" + h + "," + which + "," + place + ")", x.to(h, which, place), m.to(h, which, place));
                break;
            case 33:
                same("cheat(" + h + "," + what + ")", x.cheat(h, what), m.cheat(h, what));
                break;
            case 34:
                int c = chance.nextInt(9) == 0 ? some(0, 300) : some(0, 6);
                int seen = some(0, 7);
                int part = some(0, 1);
                same("odds(" + h + "," + seen + "," + c + "," + part + ")", x.odds(h, seen, c, part), m.odds(h, seen, c, part));
                break;
            case 35:
                int k = chance.nextInt(5) == 0 ? some(0, 99) : some(0, 3);
                int card = chance.nextInt(5) == 0 ? some(0, 13) : some(1, 5);
                same("sight(" + k + "," + card + ")", x.sight(k, card), m.sight(k, card));
                if (chance.nextInt(6) == 0) {
                    same("forget()", x.forget(), m.forget());
                }
                break;
            case 36: case 37:
                same("fits(" + h + "," + which + "," + place + ")", x.fits(h, which, place), m.fits(h, which, place));
                break;
            case 38:
                int other = heap();
                same("race(" + h + "," + other + ")", x.race(h, other), m.race(h, other));
                int block = some(0, 9);
                same("sorted(" + h + "," + block + ")", x.sorted(h, block), m.sorted(h, block));
                break;
            default:
                int seed = chance.nextInt(5) == 0 ? some(999999, 1000000) : some(0, 1000000);
                int nights = some(1, 60);
                same("evenings(" + h + "," + seed + "," + nights + ")", x.evenings(h, seed, nights), m.evenings(h, seed, nights));
        }
    }
}
