import java.util.Random;

/** Seeded runs of calls, each on a new object, answer for answer the same as NaiveWheel's. */
public final class CompareTest {
    private static final int[][] SHAPES = {
        {2, 1}, {2, 2}, {2, 3}, {2, 4}, {2, 5}, {2, 6}, {2, 7}, {2, 8}, {2, 9}, {3, 1}, {3, 2}, {3, 3}, {3, 4},
        {3, 5}, {3, 6}, {4, 1}, {4, 2}, {4, 3}, {4, 4}, {5, 1}, {5, 2}, {5, 3}, {5, 4}
    };
    private static final int[][] LARGE = {{2, 10}, {2, 12}, {2, 14}, {3, 8}, {3, 9}, {4, 6}, {4, 7}, {5, 5}, {5, 6}};
    private static final int[] EDGES = {
        Integer.MIN_VALUE, Integer.MIN_VALUE + 1, -200, -1, 0, 1, 2, 3, 4, 5, 6, 13, 14, 15, 39, 40, 41, 199, 200, 201,
        999, 1000, 1001, 19999, 20000, 20001, Integer.MAX_VALUE - 1, Integer.MAX_VALUE
    };

    private final Random random;
    private final WordWheel wheel = new WordWheel();
    private final NaiveWheel naive = new NaiveWheel();
    private final StringBuilder told = new StringBuilder();
    private int calls = 0;

    private CompareTest(long seed) {
        random = new Random(seed);
    }

    public static void main(String[] args) {
        for (int seed = 0; seed < 1500 && Due.wrongs() < 20; seed++) {
            new CompareTest(seed).mixedRun(SHAPES, 440);
        }
        for (int seed = 5000; seed < 5030 && Due.wrongs() < 20; seed++) {
            new CompareTest(seed).mixedRun(LARGE, 60);
        }
        for (int seed = 6000; seed < 6040 && Due.wrongs() < 20; seed++) {
            new CompareTest(seed).exchangeRun();
        }
        Due.end();
    }

    /** One turn may take some sixty calls, and an object has 512. */
    private void mixedRun(int[][] shapes, int most) {
        int wrong = Due.wrongs();
        for (int i = 0; calls < most && Due.wrongs() == wrong; i++) {
            int[] shape = shapes[random.nextInt(shapes.length)];
            if (i == 0 || random.nextInt(60) == 0) {
                same("wheel", wheel.wheel(shape[0], shape[1]), naive.wheel(shape[0], shape[1]), shape[0], shape[1]);
            } else {
                callOne();
            }
        }
        same("digest", wheel.digest(), naive.digest());
    }

    /** Many EXCHANGES, up to the most that there may be, and back. */
    private void exchangeRun() {
        int wrong = Due.wrongs();
        int[] shape = SHAPES[random.nextInt(SHAPES.length)];
        same("wheel", wheel.wheel(shape[0], shape[1]), naive.wheel(shape[0], shape[1]), shape[0], shape[1]);
        for (int i = 0; i < 500 && Due.wrongs() == wrong; i++) {
            int what = random.nextInt(100);
            if (what < 2) {
                same("join", wheel.join(), naive.join());
            } else if (what < 5) {
                same("back", wheel.back(), naive.back());
            } else if (what < 7) {
                registerCall();
            } else {
                exchange();
            }
        }
        same("digest", wheel.digest(), naive.digest());
    }

    private void same(String name, long got, long want, int... with) {
        StringBuilder call = new StringBuilder(name).append('(');
        for (int i = 0; i < with.length; i++) {
            call.append(i == 0 ? "" : ", ").append(with[i]);
        }
        call.append(')');
        calls++;
        told.append(call).append(" -> ").append(got).append('\n');
        Due.due(name, got, want);
        if (got != want) {
            System.out.println(told);
        }
    }

    /** A number from low to high, seldom one of the edges. */
    private int pick(int low, int high) {
        int odd = random.nextInt(25);
        if (odd == 0) {
            return EDGES[random.nextInt(EDGES.length)];
        }
        if (odd == 1) {
            return random.nextBoolean() ? low - 1 : high + 1;
        }
        if (odd == 2) {
            return random.nextBoolean() ? low : high;
        }
        return low + random.nextInt(high - low + 1);
    }

    private int word() {
        return pick(0, naive.all - 1);
    }

    private void callOne() {
        switch (random.nextInt(4)) {
            case 0:
                wordCall();
                break;
            case 1:
                registerCall();
                break;
            case 2:
                roundCall();
                break;
            default:
                tapeCall();
                break;
        }
    }

    private void wordCall() {
        int a = word();
        switch (random.nextInt(12)) {
            case 0: {
                int t = pick(0, 1000);
                same("turn", wheel.turn(a, t), naive.turn(a, t), a, t);
                break;
            }
            case 1:
                same("least", wheel.least(a), naive.least(a), a);
                break;
            case 2:
                same("steps", wheel.steps(a), naive.steps(a), a);
                break;
            case 3:
                same("size", wheel.size(a), naive.size(a), a);
                break;
            case 4:
                same("even", wheel.even(a), naive.even(a), a);
                break;
            case 5:
                same("rings", wheel.rings(), naive.rings());
                break;
            case 6:
                same("ringOf", wheel.ringOf(a), naive.ringOf(a), a);
                break;
            case 7: {
                int r = pick(0, naive.rings() - 1);
                same("ring", wheel.ring(r), naive.ring(r), r);
                break;
            }
            case 8:
                same("below", wheel.below(a), naive.below(a), a);
                break;
            case 9: {
                int what = pick(0, 5);
                same("count", wheel.count(what), naive.count(what), what);
                break;
            }
            case 10: {
                if (random.nextInt(10) == 0) {
                    int k = EDGES[random.nextInt(EDGES.length)];
                    int n = EDGES[random.nextInt(EDGES.length)];
                    if (Math.abs((long) k) > 5 || Math.abs((long) n) > 4) {
                        same("wheel", wheel.wheel(k, n), naive.wheel(k, n), k, n);
                    }
                }
                break;
            }
            default:
                content();
                break;
        }
    }

    private void content() {
        int[] v = new int[5];
        for (int i = 0; i < naive.n; i++) {
            v[random.nextInt(naive.k)]++;
        }
        if (random.nextInt(5) == 0) {
            int[] w = new int[5];
            for (int i = 0; i < 5; i++) {
                w[i] = naive.n % 2 == 0 ? v[i] / 2 * 2 : v[i];
            }
            v = w;
        }
        if (random.nextInt(6) == 0) {
            v[random.nextInt(5)] += random.nextInt(3) - 1;
            v[random.nextInt(5)] += random.nextInt(3) - 1;
        }
        if (random.nextInt(20) == 0) {
            v[random.nextInt(5)] = EDGES[random.nextInt(EDGES.length)];
        }
        same("content", wheel.content(v[0], v[1], v[2], v[3], v[4]), naive.content(v[0], v[1], v[2], v[3], v[4]),
                v[0], v[1], v[2], v[3], v[4]);
    }

    private void registerCall() {
        switch (random.nextInt(13)) {
            case 0: {
                int i = pick(0, naive.n - 1);
                int v = pick(i == 0 && random.nextInt(4) > 0 ? 1 : 0, naive.k - 1);
                same("factor", wheel.factor(i, v), naive.factor(i, v), i, v);
                break;
            }
            case 1: {
                int v = pick(0, naive.k - 1);
                same("sum", wheel.sum(v), naive.sum(v), v);
                break;
            }
            case 2:
            case 3: {
                int w = word();
                same("go", wheel.go(w), naive.go(w), w);
                break;
            }
            case 4:
                same("right", wheel.right(), naive.right());
                break;
            case 5:
                same("back", wheel.back(), naive.back());
                break;
            case 6:
                same("cycles", wheel.cycles(), naive.cycles());
                break;
            case 7: {
                int w = word();
                same("cycleOf", wheel.cycleOf(w), naive.cycleOf(w), w);
                break;
            }
            case 8: {
                int c = pick(0, Math.max(0, naive.cycles() - 1));
                int what = pick(0, 1);
                same("cycle", wheel.cycle(c, what), naive.cycle(c, what), c, what);
                break;
            }
            case 9:
                same("join", wheel.join(), naive.join());
                break;
            default:
                exchange();
                break;
        }
    }

    private void exchange() {
        int one = random.nextInt(naive.all);
        int high = naive.all / naive.k;
        int other = one % high + high * random.nextInt(naive.k);
        if (random.nextInt(12) == 0) {
            one = word();
        }
        if (random.nextInt(12) == 0) {
            other = word();
        }
        same("exchange", wheel.exchange(one, other), naive.exchange(one, other), one, other);
    }

    private void roundCall() {
        switch (random.nextInt(9)) {
            case 0: {
                int kind = pick(0, 2);
                same("round", wheel.round(kind), naive.round(kind), kind);
                break;
            }
            case 1: {
                int i = word();
                same("letter", wheel.letter(i), naive.letter(i), i);
                break;
            }
            case 2:
            case 3: {
                int w = word();
                same("place", wheel.place(w), naive.place(w), w);
                break;
            }
            case 4: {
                int from = word();
                int to = word();
                same("way", wheel.way(from, to), naive.way(from, to), from, to);
                break;
            }
            case 5: {
                int t = pick(0, 3);
                int i = pick(0, 20);
                int p = word();
                int n = pick(0, random.nextInt(3) == 0 ? 200 : 40);
                same("print", wheel.print(t, i, p, n), naive.print(t, i, p, n), t, i, p, n);
                break;
            }
            case 6:
                same("found", wheel.found(), naive.found());
                break;
            default: {
                int t = pick(0, 3);
                int i = pick(0, random.nextBoolean() ? 20 : 160);
                int n = pick(1, random.nextBoolean() ? 40 : 8);
                int slips = pick(0, random.nextBoolean() ? 40 : 3);
                same("find", wheel.find(t, i, n, slips), naive.find(t, i, n, slips), t, i, n, slips);
                break;
            }
        }
    }

    private void tapeCall() {
        int t = pick(0, 3);
        switch (random.nextInt(14)) {
            case 0: {
                int form = pick(0, 2);
                int n = pick(0, random.nextBoolean() ? 200 : 12);
                same("tape", wheel.tape(t, form, n), naive.tape(t, form, n), t, form, n);
                break;
            }
            case 1:
                if (random.nextInt(3) == 0) {
                    same("lose", wheel.lose(t), naive.lose(t), t);
                }
                break;
            case 2: {
                int form = pick(0, 2);
                int i = pick(0, 20);
                int v = random.nextInt(8) == 0 ? random.nextInt() : pick(0, naive.k - 1);
                same("put", wheel.put(t, form, i, v), naive.put(t, form, i, v), t, form, i, v);
                break;
            }
            case 3: {
                int form = pick(0, 2);
                int i = pick(0, 30);
                same("get", wheel.get(t, form, i), naive.get(t, form, i), t, form, i);
                break;
            }
            case 4: {
                int u = pick(0, 3);
                int i = pick(0, 20);
                int j = pick(0, 20);
                int n = pick(0, random.nextBoolean() ? 8 : 200);
                same("copy", wheel.copy(t, i, u, j, n), naive.copy(t, i, u, j, n), t, i, u, j, n);
                break;
            }
            case 5:
                scribble(t);
                break;
            case 6:
                same("count", wheel.count(5), naive.count(5), 5);
                break;
            case 7:
                same("twice", wheel.twice(t), naive.twice(t), t);
                break;
            case 8:
                same("parts", wheel.parts(t), naive.parts(t), t);
                break;
            case 9:
            case 10: {
                int k = pick(0, 12);
                same("part", wheel.part(k), naive.part(k), k);
                break;
            }
            case 11:
                same("recurrence", wheel.recurrence(t), naive.recurrence(t), t);
                break;
            default: {
                int j = pick(1, 12);
                same("coefficient", wheel.coefficient(j), naive.coefficient(j), j);
                break;
            }
        }
    }

    /** A new short tape full of LETTERS, all looked at. */
    private void scribble(int t) {
        int form = random.nextInt(3);
        int n = random.nextInt(14);
        same("tape", wheel.tape(t, form, n), naive.tape(t, form, n), t, form, n);
        for (int i = 0; i < n; i++) {
            int v = random.nextInt(naive.k);
            same("put", wheel.put(t, form, i, v), naive.put(t, form, i, v), t, form, i, v);
        }
        same("twice", wheel.twice(t), naive.twice(t), t);
        same("parts", wheel.parts(t), naive.parts(t), t);
        same("recurrence", wheel.recurrence(t), naive.recurrence(t), t);
        for (int i = 0; i <= n; i++) {
            same("part", wheel.part(i), naive.part(i), i);
            same("coefficient", wheel.coefficient(i), naive.coefficient(i), i);
        }
    }
}
