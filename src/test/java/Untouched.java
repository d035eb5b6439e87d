import java.util.LinkedHashMap;
import java.util.Map;
import java.util.function.Supplier;
import java.util.function.ToIntFunction;

/**
 * A call that must leave all as it was: made on one of two like tables, behind which everything that can be
 * asked of them, undone, gone back to, must be alike.
 */
final class Untouched {
    private final Supplier<Counted> scene;
    private final String name;
    private final ToIntFunction<Counted> call;
    private boolean tapeIsEmpty;
    private Integer fault;
    private Integer stopped;

    private Untouched(Supplier<Counted> scene, String name, ToIntFunction<Counted> call) {
        this.scene = scene;
        this.name = name;
        this.call = call;
    }

    static Untouched by(Supplier<Counted> scene, String name, ToIntFunction<Counted> call) {
        return new Untouched(scene, name, call);
    }

    /** But for the tape, which is empty then. */
    Untouched tapeIsEmpty() {
        tapeIsEmpty = true;
        return this;
    }

    /** But for the fault. */
    Untouched fault(int place) {
        fault = place;
        return this;
    }

    /** But for where orders stopped. */
    Untouched stopped(int clause) {
        stopped = clause;
        return this;
    }

    /** It is refused: the answer, the status and the count tell by what. */
    void refused(int code) {
        Counted x = scene.get();
        int[] before = refusals(x);
        Check.due(name, call.applyAsInt(x), code);
        Check.due("status behind " + name, x.status(), code);
        int[] behind = refusals(x);
        for (int i = 0; i < before.length; i++) {
            int more = i == index(code) ? 1 : 0;
            Check.due("count(" + (5 + i) + ") behind " + name, behind[i], before[i] + more);
        }
        compare(x);
    }

    /** It is not refused, it answers: status and counts stay, too. */
    void answers(int value) {
        Counted x = scene.get();
        int[] before = refusals(x);
        int status = x.status();
        Check.due(name, call.applyAsInt(x), value);
        Check.due("status behind " + name, x.status(), status);
        int[] behind = refusals(x);
        for (int i = 0; i < before.length; i++) {
            Check.due("count(" + (5 + i) + ") behind " + name, behind[i], before[i]);
        }
        compare(x);
    }

    /** It answers whatever is due, which another test tells: status and counts stay, and all else. */
    void leavesAll() {
        answers(call.applyAsInt(scene.get()));
    }

    private static int index(int code) {
        switch (code) {
            case -1: return 0;
            case -2: return 1;
            case -3: return 2;
            case -5: return 3;
            case -6: return 4;
            default: return -1;
        }
    }

    private static int[] refusals(Counted x) {
        int[] all = new int[5];
        for (int i = 0; i < 5; i++) {
            all[i] = x.count(5 + i);
        }
        return all;
    }

    private void compare(Counted x) {
        Counted like = scene.get();
        if (tapeIsEmpty) {
            like.end(0);
        }
        Map<String, Integer> due = new LinkedHashMap<>();
        look(like, "now", due);
        if (fault != null) {
            due.put("now: fault()", fault);
        }
        if (stopped != null) {
            due.put("now: stopped()", stopped);
        }
        lookOn(like, due);
        Map<String, Integer> got = new LinkedHashMap<>();
        look(x, "now", got);
        lookOn(x, got);
        Check.holds("as much is seen behind " + name, got.keySet().equals(due.keySet()));
        for (Map.Entry<String, Integer> entry : due.entrySet()) {
            Integer seen = got.get(entry.getKey());
            if (seen != null) {
                Check.due("behind " + name + ", " + entry.getKey(), seen, entry.getValue());
            }
        }
    }

    /** All that can be asked without changing anything. */
    private static void look(Counted x, String when, Map<String, Integer> seen) {
        for (int what : new int[] {0, 1, 2, 3, 4, 10, 11, 12}) {
            seen.put(when + ": count(" + what + ")", x.count(what));
        }
        seen.put(when + ": fault()", x.fault());
        seen.put(when + ": stopped()", x.stopped());
        for (int what = 0; what < 5; what++) {
            seen.put(when + ": drawn(" + what + ")", x.drawn(what));
        }
        heaps(x, when, seen);
        seen.put(when + ": fits(0, -1, 0)", x.fits(0, -1, 0));
    }

    private static void heaps(Counted x, String when, Map<String, Integer> seen) {
        int heaps = x.count(0);
        for (int h = 0; h < heaps; h++) {
            int many = x.of(h, 0);
            for (int what : new int[] {1, 2, 5, 6}) {
                seen.put(when + ": of(" + h + ", " + what + ")", x.of(h, what));
            }
            for (int place = 0; place < many; place++) {
                seen.put(when + ": of(" + h + ", " + (7 + place) + ")", x.of(h, 7 + place));
            }
        }
    }

    /** What can be seen only by going on: the tape, the laws, what can be undone, the images. */
    private static void lookOn(Counted x, Map<String, Integer> seen) {
        seen.put("the tape's orders", x.orders());
        seen.put("their fault", x.fault());
        seen.put("where they stopped", x.stopped());
        int laws = x.count(2);
        for (int law = 0; law < laws; law++) {
            seen.put("force(" + law + ")", x.force(law));
            seen.put("what it turns by law " + law, x.of(0, 5));
            seen.put("what it sinks by law " + law, x.of(0, 6));
        }
        int changes = x.count(3);
        for (int i = 0; i <= changes; i++) {
            seen.put("undo() " + i, x.undo());
            seen.put("top of heap 0 behind undo() " + i, x.of(0, 7));
            seen.put("top of heap 1 behind undo() " + i, x.of(1, 7));
            seen.put("top of heap 2 behind undo() " + i, x.of(2, 7));
        }
        heaps(x, "behind undo()", seen);
        for (int k = 1; k >= 0; k--) {
            seen.put("back(" + k + ")", x.back(k));
            look(x, "back at " + k, seen);
        }
    }
}
