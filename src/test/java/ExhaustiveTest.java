import java.util.Arrays;
import java.util.List;
import java.util.Random;
import java.util.TreeMap;

/** Everything there is of rings, in every shape; every short row and some long ones on a tape. */
public final class ExhaustiveTest {
    private static final int[] LONGEST = {0, 0, 14, 9, 7, 6};

    /** A new object comes when an old one has had its calls. */
    private WordWheel wheel;
    private int calls;
    private final int k;
    private final int n;

    private ExhaustiveTest(int k, int n) {
        this.k = k;
        this.n = n;
        this.wheel = new WordWheel();
        this.wheel.wheel(k, n);
    }

    public static void main(String[] args) {
        for (int k = 2; k <= 5; k++) {
            for (int n = 1; n <= LONGEST[k]; n++) {
                new ExhaustiveTest(k, n).allRings();
            }
        }
        everyShortRow(2, 10);
        everyShortRow(3, 6);
        everyShortRow(5, 5);
        longRows();
        Due.end();
    }

    private WordWheel x() {
        if (++calls == 500) {
            calls = 0;
            wheel = new WordWheel();
            wheel.wheel(k, n);
        }
        return wheel;
    }

    private void allRings() {
        int all = (int) Math.round(Math.pow(k, n));
        int high = all / k;
        int[] leasts = new int[all];
        int[] sizes = new int[all];
        int rings = 0;
        for (int w = 0; w < all; w++) {
            int least = w;
            int size = 0;
            int at = w;
            do {
                at = at % high * k + at / high;
                least = Math.min(least, at);
                size++;
            } while (at != w);
            leasts[w] = least;
            sizes[w] = size;
        }
        String shape = k + ", " + n + ": ";
        TreeMap<String, Integer> contents = new TreeMap<>();
        int below = 0;
        for (int w = 0; w < all; w++) {
            Due.due(shape + "below " + w, x().below(w), below);
            if (leasts[w] == w) {
                Due.due(shape + "ring " + rings, x().ring(rings), w);
                contents.merge(contentOf(w), 1, Integer::sum);
                rings++;
                below += sizes[w];
            }
            Due.due(shape + "least " + w, x().least(w), leasts[w]);
            Due.due(shape + "size " + w, x().size(w), sizes[w]);
            int ring = x().ringOf(w);
            Due.due(shape + "ringOf " + w, x().ring(ring) == leasts[w]);
        }
        Due.due(shape + "rings", x().rings(), rings);
        Due.due(shape + "ring behind the last", x().ring(rings), -2);
        allContents(shape, contents);
    }

    private String contentOf(int word) {
        int[] many = new int[5];
        for (int i = 0, rest = word; i < n; i++, rest /= k) {
            many[rest % k]++;
        }
        return Arrays.toString(many);
    }

    private void allContents(String shape, TreeMap<String, Integer> contents) {
        int together = 0;
        for (int a = 0; a <= n; a++) {
            for (int b = 0; a + b <= n; b++) {
                for (int c = 0; a + b + c <= n; c++) {
                    for (int d = 0; a + b + c + d <= n; d++) {
                        int e = n - a - b - c - d;
                        int due = contents.getOrDefault(Arrays.toString(new int[] {a, b, c, d, e}), -2);
                        Due.due(shape + "content", x().content(a, b, c, d, e), due);
                        together += Math.max(0, due);
                    }
                }
            }
        }
        Due.due(shape + "contents", together, x().rings());
    }

    private static void everyShortRow(int k, int longest) {
        for (int length = 0; length <= longest; length++) {
            int all = (int) Math.round(Math.pow(k, length));
            for (int number = 0; number < all; number++) {
                int[] row = new int[length];
                for (int i = length - 1, rest = number; i >= 0; i--, rest /= k) {
                    row[i] = rest % k;
                }
                shortRow(k, row);
            }
        }
    }

    private static WordWheel onTape(int k, int[] row) {
        WordWheel x = new WordWheel();
        x.wheel(k, 1);
        x.tape(0, row.length % 3, row.length);
        for (int i = 0; i < row.length; i++) {
            x.put(0, row.length % 3, i, row[i]);
        }
        return x;
    }

    private static void shortRow(int k, int[] row) {
        WordWheel x = onTape(k, row);
        String name = Arrays.toString(row);
        int length = x.recurrence(0);
        int[] least = leastByTrying(k, row);
        Due.due("recurrence of " + name, length, least.length);
        for (int j = 1; j <= least.length; j++) {
            Due.due("coefficient " + j + " of " + name, x.coefficient(j), least[j - 1]);
        }
        int parts = x.parts(0);
        for (int p = 0; p < parts; p++) {
            int[] part = partOf(x, row, p, parts);
            Due.due("a least part of " + name, isLessThanTurned(part));
            Due.due("not less than the one behind in " + name,
                    p + 1 == parts || Arrays.compare(part, partOf(x, row, p + 1, parts)) >= 0);
        }
        Due.due("begins at 0: " + name, parts == 0 ? row.length == 0 : x.part(0) == 0);
    }

    private static int[] partOf(WordWheel x, int[] row, int p, int parts) {
        return Arrays.copyOfRange(row, x.part(p), p + 1 == parts ? row.length : x.part(p + 1));
    }

    private static boolean isLessThanTurned(int[] part) {
        for (int t = 1; t < part.length; t++) {
            int[] turned = new int[part.length];
            for (int i = 0; i < part.length; i++) {
                turned[i] = part[(i + t) % part.length];
            }
            if (Arrays.compare(part, turned) >= 0) {
                return false;
            }
        }
        return part.length > 0;
    }

    /** All numbers of each length, the least ones first, until they fit. */
    private static int[] leastByTrying(int k, int[] row) {
        for (int length = 0; ; length++) {
            int all = (int) Math.round(Math.pow(k, length));
            for (int number = 0; number < all; number++) {
                int[] tried = new int[length];
                for (int i = length - 1, rest = number; i >= 0; i--, rest /= k) {
                    tried[i] = rest % k;
                }
                if (fits(k, row, tried)) {
                    return tried;
                }
            }
        }
    }

    private static boolean fits(int k, int[] row, int[] numbers) {
        for (int i = numbers.length; i < row.length; i++) {
            int due = 0;
            for (int j = 1; j <= numbers.length; j++) {
                due += numbers[j - 1] * row[i - j];
            }
            if (due % k != row[i]) {
                return false;
            }
        }
        return true;
    }

    private static void longRows() {
        Random random = new Random(7);
        for (int i = 0; i < 300; i++) {
            int k = new int[] {2, 3, 5}[i % 3];
            int[] row = longRow(random, k, i < 30 ? 200 : 14 + random.nextInt(187));
            WordWheel x = onTape(k, row);
            int[] least = NaiveWheel.leastRecurrence(row, k);
            Due.due("long recurrence " + i, x.recurrence(0), least.length);
            for (int j = 1; j <= least.length; j++) {
                Due.due("long recurrence " + i + ": " + j, x.coefficient(j), least[j - 1]);
            }
            List<Integer> begins = NaiveWheel.leastParts(row);
            Due.due("long parts " + i, x.parts(0), begins.size());
            x = onTape(k, row);
            x.parts(0);
            for (int p = 0; p < begins.size(); p++) {
                Due.due("long parts " + i + ": " + p, x.part(p), begins.get(p));
            }
        }
    }

    /** By chance, or by a recurrence of some length, perhaps with a LETTER changed. */
    private static int[] longRow(Random random, int k, int length) {
        int[] row = new int[length];
        int by = random.nextInt(3) == 0 ? length : random.nextInt(length);
        int[] numbers = new int[by];
        for (int j = 0; j < by; j++) {
            numbers[j] = random.nextInt(k);
        }
        for (int i = 0; i < length; i++) {
            row[i] = random.nextInt(k);
            if (i >= by) {
                row[i] = 0;
                for (int j = 0; j < by; j++) {
                    row[i] = (row[i] + numbers[j] * row[i - 1 - j]) % k;
                }
            }
        }
        if (random.nextInt(3) == 0) {
            row[random.nextInt(length)] = random.nextInt(k);
        }
        return row;
    }
}
