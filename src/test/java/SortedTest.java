import java.util.ArrayDeque;
import java.util.Arrays;
import java.util.HashMap;
import java.util.List;
import java.util.Map;

/** Promise 27: sorted. */
public final class SortedTest {
    public static void main(String[] args) {
        few();
        alike();
        without();
        for (int n = 1; n <= 6; n++) {
            all(n);
        }
        int most = args.length > 0 ? Integer.parseInt(args[0]) : 6;
        for (int n = 1; n <= most; n++) {
            allAlike(n);
        }
        some();
        Check.finish("SortedTest");
    }

    private static void blocks(Counted x, int heap, int... blocks) {
        Check.due("how many blocks", x.sorted(heap, 0), blocks.length);
        for (int i = 0; i < blocks.length; i++) {
            Check.due("block " + i, x.sorted(heap, 1 + i), blocks[i]);
        }
        Check.due("behind the last", x.sorted(heap, 1 + blocks.length), -1);
    }

    private static void few() {
        Counted x = Counted.with(3, 1, 2);
        blocks(x, 0, 3, 2);
        x.heap(1, 2, 3);
        blocks(x, 1);
        x.heap(9);
        blocks(x, 2);
        x.heap(13, 1);
        blocks(x, 3, 2);
        x.heap(1, 0);
        blocks(x, 4, 2);
        x.heap(1, 3, 2);
        blocks(x, 5, 2, 3, 2);
        x.law("turns 1;ends");
        x.force(0);
        x.terms(1, 1);
        blocks(x, 5, 2, 3, 2);
        x.lies(5, 1, 3, 2);
    }

    private static void alike() {
        Counted x = Counted.with(2, 2, 1);
        blocks(x, 0, 3);
        x.heap(2, 1, 2);
        blocks(x, 1, 2);
        x.heap(1, 2, 1);
        blocks(x, 2, 2, 3);
        x.heap(5, 5, 5, 5, 5, 5, 5);
        blocks(x, 3);
        x.heap(7, 7, 3, 3, 3, 0, 0);
        blocks(x, 4, 7);
    }

    private static void without() {
        Counted x = Counted.with(1, 2, 3, 4, 5, 6, 7, 8);
        Check.due("eight cards", x.sorted(0, 0), -1);
        x.heap(7, 6, 5, 4, 3, 2, 1);
        blocks(x, 1, 7);
        Check.due("no heap", x.sorted(2, 0), -1);
        Check.due("no heap", x.sorted(-1, 0), -1);
        Check.due("what -1", x.sorted(1, -1), -1);
        Check.due("what least", x.sorted(1, Integer.MIN_VALUE), -1);
        Check.due("what greatest", x.sorted(1, Integer.MAX_VALUE), -1);
        Check.due("not refused", x.status(), 0);
    }

    /** Every row of 1 .. n: as many blocks as it is away from the row that rises, the first of all such ways. */
    private static void all(int n) {
        Map<String, Integer> away = distances(n);
        int i = 0;
        Counted x = null;
        for (List<Integer> row : Model.allRows(Model.upTo(n))) {
            if (i % 6 == 0) {
                x = new Counted();
            }
            int[] cards = row.stream().mapToInt(c -> c).toArray();
            x.heap(cards);
            isFirst(x, i % 6, cards, away);
            i++;
        }
    }

    /** Every row of n cards some of which are alike, however many there are of each (seven: some 47,000 rows). */
    private static void allAlike(int n) {
        for (int groups = 0; groups < 1 << n - 1; groups++) {
            int[] cards = new int[n];
            for (int i = 1; i < n; i++) {
                cards[i] = cards[i - 1] + (groups >> i - 1 & 1);
            }
            Map<String, Integer> away = distances(cards);
            List<Integer> row = new java.util.ArrayList<>();
            for (int card : cards) {
                row.add(card);
            }
            for (List<Integer> each : Model.allRows(row)) {
                int[] lie = each.stream().mapToInt(c -> c).toArray();
                isFirst(Counted.with(lie), 0, lie, away);
            }
        }
    }

    private static void isFirst(Counted x, int heap, int[] cards, Map<String, Integer> away) {
        int left = away.get(Arrays.toString(cards));
        int[] row = cards.clone();
        Check.due("how many for " + Arrays.toString(cards), x.sorted(heap, 0), left);
        for (int b = 1; left > 0; b++) {
            int n = 2;
            while (away.get(Arrays.toString(turned(row, n))) != left - 1) {
                n++;
            }
            Check.due("block " + b + " for " + Arrays.toString(cards), x.sorted(heap, b), n);
            row = turned(row, n);
            left--;
        }
    }

    private static int[] turned(int[] row, int n) {
        int[] next = row.clone();
        for (int i = 0; i < n; i++) {
            next[i] = row[n - 1 - i];
        }
        return next;
    }

    private static Map<String, Integer> distances(int n) {
        int[] start = new int[n];
        for (int i = 0; i < n; i++) {
            start[i] = i + 1;
        }
        return distances(start);
    }

    /** From a row that rises: how many blocks any other row of its cards is away. */
    private static Map<String, Integer> distances(int[] start) {
        Map<String, Integer> away = new HashMap<>();
        ArrayDeque<int[]> open = new ArrayDeque<>();
        away.put(Arrays.toString(start), 0);
        open.add(start);
        while (!open.isEmpty()) {
            int[] row = open.remove();
            for (int k = 2; k <= start.length; k++) {
                int[] next = turned(row, k);
                if (away.putIfAbsent(Arrays.toString(next), away.get(Arrays.toString(row)) + 1) == null) {
                    open.add(next);
                }
            }
        }
        return away;
    }

    /** Of seven cards those that are farthest, and some others. */
    private static void some() {
        Map<String, Integer> away = distances(7);
        int farthest = 0;
        int i = 0;
        for (List<Integer> row : Model.allRows(Model.upTo(7))) {
            int[] cards = row.stream().mapToInt(c -> c).toArray();
            int far = away.get(Arrays.toString(cards));
            farthest = Math.max(farthest, far);
            if (far == 8 || i % 7 == 0) {
                isFirst(Counted.with(cards), 0, cards, away);
            }
            i++;
        }
        Check.due("the farthest of seven", farthest, 8);
    }
}
