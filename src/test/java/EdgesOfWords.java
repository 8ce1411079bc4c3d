import java.util.function.Supplier;
import java.util.function.ToIntBiFunction;

/** The edges of promises 1 to 12: a new object, the wheel, words and rings. */
final class EdgesOfWords {
    private static final int NONE = Edges.NONE, BAD = Edges.BAD, NOT = Edges.NOT;
    private static final int NULL = Edges.NULL, LOW = Edges.LOW, HIGH = Edges.HIGH;

    private EdgesOfWords() {
    }

    static void run() {
        newShape();
        newRegister();
        newRound();
        newTapes();
        wheelTellsAll();
        wheelTurns();
        wheelHasNoRound();
        wheelKeepsTapes();
        wheelRefuses();
        turnBy0To1000();
        turnRefuses();
        least();
        leastRefuses();
        steps();
        stepsRefuses();
        size();
        sizeRefuses();
        even();
        evenRefuses();
        rings();
        ringOf();
        ringOfRefuses();
        ring();
        ringRefuses();
        below();
        belowRefuses();
        content();
        contentTogether();
        contentBelow0();
        contentOfNoLetter();
    }

    private static void due(String call, long got, long want) {
        Edges.due(call, got, want);
    }

    /** A call with a WORD takes 0 and ALL - 1, and refuses what is on both sides of these. */
    static void dueWordsOnly(String name, ToIntBiFunction<WordWheel, Integer> call) {
        dueWordsOnly(name, States::busy, 27, call);
        dueWordsOnly(name, States::fresh, 8, call);
        // what was a WORD in a longer wheel is none in a shorter one
        dueWordsOnly(name, () -> wheeled(2, 14, 2, 3), 8, call);
        dueWordsOnly(name, () -> wheeled(2, 3, 3, 9), 19683, call);
    }

    private static void dueWordsOnly(String name, Supplier<WordWheel> state, int all, ToIntBiFunction<WordWheel, Integer> call) {
        for (int word : new int[] {0, all - 1}) {
            due(name + "(" + word + ") of " + all + " is taken", call.applyAsInt(state.get(), word) >= 0 ? 1 : 0, 1);
        }
        for (int word : new int[] {-1, all, all + 1, LOW, HIGH}) {
            Edges.refused(name + "(" + word + ") of " + all, state, x -> call.applyAsInt(x, word), BAD);
        }
    }

    private static WordWheel wheeled(int k, int n, int newK, int newN) {
        WordWheel x = new WordWheel();
        x.wheel(k, n);
        x.round(0);
        x.wheel(newK, newN);
        x.round(0);
        return x;
    }

    private static WordWheel wheel(int k, int n) {
        WordWheel x = new WordWheel();
        x.wheel(k, n);
        return x;
    }

    private static void newShape() {
        Edges.says(1, "K 2, N 3");
        WordWheel x = new WordWheel();
        due("K", x.count(0), 2);
        due("N", x.count(1), 3);
        due("ALL", x.count(2), 8);
    }

    private static void newRegister() {
        Edges.says(1, "the REGISTER turns");
        WordWheel x = new WordWheel();
        int[] leads = {0, 2, 4, 6, 1, 3, 5, 7};
        for (int w = 0; w < 8; w++) {
            due("go(" + w + ")", x.go(w), leads[w]);
        }
        due("no EXCHANGES", x.count(3), 0);
        due("none to take back", x.back(), NOT);
        due("F 0", x.factor(0, 1), 1);
        due("F 1", x.factor(1, 0), 0);
        due("F 2", x.factor(2, 0), 0);
        due("SUM", x.sum(0), 0);
    }

    private static void newRound() {
        Edges.says(1, "no ROUND");
        WordWheel x = new WordWheel();
        due("count(4)", x.count(4), NONE);
        due("letter(0)", x.letter(0), BAD);
        due("way(0, 0)", x.way(0, 0), BAD);
        due("place(0)", x.place(0), NOT);
        due("print", x.print(0, 0, 0, 0), NOT);
        due("find", x.find(0, 0, 1, 0), NOT);
        due("found()", x.found(), NONE);
    }

    private static void newTapes() {
        Edges.says(1, "all TAPES are LOST.");
        WordWheel x = new WordWheel();
        due("no FINDING before any", x.count(5), 0);
        for (int t = 0; t < 4; t++) {
            due("lose(" + t + ")", x.lose(t), NULL);
        }
        due("nothing parted", x.part(0), BAD);
        due("no RECURRENCE told", x.coefficient(1), BAD);
    }

    private static void wheelTellsAll() {
        Edges.says(2, "K and N are told: ALL.");
        WordWheel x = new WordWheel();
        int[][] shapes = {{2, 1, 2}, {5, 1, 5}, {2, 14, 16384}, {3, 9, 19683}, {4, 7, 16384}, {5, 6, 15625}, {2, 3, 8}};
        for (int[] s : shapes) {
            due("wheel(" + s[0] + ", " + s[1] + ")", x.wheel(s[0], s[1]), s[2]);
            due("K", x.count(0), s[0]);
            due("N", x.count(1), s[1]);
            due("ALL", x.count(2), s[2]);
        }
    }

    private static void wheelTurns() {
        Edges.says(2, "The REGISTER turns, without EXCHANGES");
        int[][] shapes = {{3, 3, 27}, {2, 3, 8}, {5, 1, 5}, {3, 4, 81}};
        for (int[] s : shapes) {
            WordWheel x = States.busy();
            x.wheel(s[0], s[1]);
            due("no EXCHANGES", x.count(3), 0);
            due("none to take back", x.back(), NOT);
            for (int w = 0; w < s[2]; w++) {
                due("go(" + w + ")", x.go(w), x.turn(w, 1));
            }
            due("as many CYCLES as RINGS", x.cycles(), x.rings());
            due("SUM", x.sum(0), 0);
            for (int i = 0; i < s[1]; i++) {
                due("F " + i, x.factor(i, 0), i == 0 ? 1 : 0);
            }
        }
        WordWheel x = States.notRight();
        x.wheel(3, 3);
        due("RIGHT again", x.right(), 1);
        x = States.full();
        x.wheel(4, 6);
        due("room again", x.exchange(0, 1024), x.rings() - 1);
        due("one EXCHANGE", x.count(3), 1);
    }

    private static void wheelHasNoRound() {
        Edges.says(2, "there is no ROUND");
        for (int kind = 0; kind < 3; kind++) {
            WordWheel x = wheel(3, 1);
            x.sum(1);
            due("round(" + kind + ")", x.round(kind), 3);
            x.wheel(3, 1);
            due("count(4)", x.count(4), NONE);
            due("letter(0)", x.letter(0), BAD);
            due("place(0)", x.place(0), NOT);
            due("way(0, 0)", x.way(0, 0), BAD);
            due("print", x.print(0, 0, 0, 0), NOT);
        }
    }

    private static void wheelKeepsTapes() {
        Edges.says(2, "TAPES stay.");
        WordWheel x = States.busy();
        x.wheel(2, 14);
        int[] items = {0, 1, 0, 0, 2, 1, 0};
        for (int i = 0; i < 7; i++) {
            due("item " + i, x.get(0, 0, i), items[i]);
        }
        due("a BLANK", x.get(1, 1, 3), 65535);
        due("7 items", x.lose(0), 7);
        due("8 items", x.lose(1), 8);
        due("no items", x.lose(2), 0);
        due("LOST", x.lose(3), NULL);
    }

    private static void wheelRefuses() {
        Edges.says(2, "BAD.");
        int[][] bad = {{1, 3}, {6, 3}, {2, 0}, {2, 15}, {3, 10}, {4, 8}, {5, 7}, {1, 0}, {6, 15}, {LOW, LOW}, {HIGH, HIGH}, {5, 14}};
        for (int[] b : bad) {
            Edges.refused("wheel(" + b[0] + ", " + b[1] + ")", States::busy, x -> x.wheel(b[0], b[1]), BAD);
        }
        Edges.refused("wheel(3, 10) of a full one", States::full, x -> x.wheel(3, 10), BAD);
    }

    private static void turnBy0To1000() {
        Edges.says(3, "A WORD turned by t (0 to 1000).");
        WordWheel x = wheel(2, 14);
        due("by 0", x.turn(1, 0), 1);
        due("by 14, round", x.turn(1, 14), 1);
        due("by 28, round and round", x.turn(1, 28), 1);
        due("by 15", x.turn(1, 15), 2);
        // 1000 is 71 times 14 and 6
        due("by 1000", x.turn(1, 1000), 64);
        due("by 999", x.turn(1, 999), 32);
        for (int t : new int[] {-1, 1001, LOW, HIGH, 1014}) {
            Edges.refused("by " + t, States::busy, y -> y.turn(1, t), BAD);
        }
        x.wheel(5, 1);
        due("one LETTER by 1000", x.turn(4, 1000), 4);
        x.wheel(2, 3);
        due("by 1000 with N 3", x.turn(1, 1000), 2);
    }

    private static void turnRefuses() {
        Edges.says(3, "BAD.");
        dueWordsOnly("turn by 1", (x, word) -> x.turn(word, 1));
        dueWordsOnly("turn by 1000", (x, word) -> x.turn(word, 1000));
        Edges.refused("no WORD, by no number", States::busy, x -> x.turn(27, 1001), BAD);
    }

    private static void least() {
        Edges.says(4, "The LEAST of its RING.");
        WordWheel x = wheel(2, 5);
        due("the first WORD", x.least(0), 0);
        due("the last WORD", x.least(31), 31);
        due("it is the LEAST", x.least(5), 5);
        due("turned by 1 it is", x.least(18), 5);
        due("turned by N - 1 it is", x.least(10), 5);
        x.wheel(5, 1);
        due("one LETTER", x.least(4), 4);
    }

    private static void leastRefuses() {
        Edges.says(4, "BAD.");
        dueWordsOnly("least", (x, word) -> x.least(word));
    }

    private static void steps() {
        Edges.says(5, "By how much it is to be turned, at least, to be its LEAST.");
        WordWheel x = wheel(2, 4);
        due("not at all", x.steps(1), 0);
        due("N - 1, the most", x.steps(2), 3);
        due("1", x.steps(8), 1);
        due("1 0 1 0: 1, not 3", x.steps(10), 1);
        due("0 1 0 1: 0, not 2", x.steps(5), 0);
        due("1 1 1 1", x.steps(15), 0);
        x.wheel(5, 1);
        due("one LETTER", x.steps(4), 0);
        x.wheel(2, 14);
        due("N - 1 of 14", x.steps(2), 13);
    }

    private static void stepsRefuses() {
        Edges.says(5, "BAD.");
        dueWordsOnly("steps", (x, word) -> x.steps(word));
    }

    private static void size() {
        Edges.says(6, "The SIZE of its RING.");
        WordWheel x = wheel(2, 14);
        due("1, the least", x.size(0), 1);
        due("1, the least", x.size(16383), 1);
        due("N, the most", x.size(1), 14);
        due("2", x.size(5461), 2);
        due("7", x.size(129), 7);
        x.wheel(5, 1);
        due("one LETTER", x.size(3), 1);
    }

    private static void sizeRefuses() {
        Edges.says(6, "BAD.");
        dueWordsOnly("size", (x, word) -> x.size(word));
    }

    private static void even() {
        Edges.says(7, "Whether its RING is EVEN: 1, 0.");
        WordWheel x = wheel(2, 6);
        due("the first WORD", x.even(0), 1);
        due("the last WORD", x.even(63), 1);
        due("0 0 1 0 1 1", x.even(11), 0);
        due("and turned", x.even(22), 0);
        due("0 0 1 1 0 1, its other side", x.even(13), 0);
        x.wheel(5, 1);
        due("one LETTER", x.even(4), 1);
    }

    private static void evenRefuses() {
        Edges.says(7, "BAD.");
        dueWordsOnly("even", (x, word) -> x.even(word));
    }

    private static void rings() {
        Edges.says(8, "How many RINGS there are.");
        int[][] rings = {
            {}, {}, {2, 3, 4, 6, 8, 14, 20, 36, 60, 108, 188, 352, 632, 1182}, {3, 6, 11, 24, 51, 130, 315, 834, 2195},
            {4, 10, 24, 70, 208, 700, 2344}, {5, 15, 45, 165, 629, 2635}
        };
        for (int k = 2; k <= 5; k++) {
            for (int n = 1; n <= rings[k].length; n++) {
                due("K " + k + ", N " + n, wheel(k, n).rings(), rings[k][n - 1]);
            }
        }
        due("at first", new WordWheel().rings(), 4);
    }

    private static void ringOf() {
        Edges.says(9, "The number of the RING of a WORD.");
        WordWheel x = wheel(3, 9);
        due("the first WORD", x.ringOf(0), 0);
        due("the last WORD", x.ringOf(19682), 2194);
        due("the last WORD but one", x.ringOf(19681), 2193);
        due("the second WORD", x.ringOf(1), 1);
        x.wheel(5, 1);
        due("one LETTER", x.ringOf(4), 4);
        x.wheel(2, 4);
        due("0 1 0 1, of SIZE 2", x.ringOf(5), 3);
        due("1 0 1 0", x.ringOf(10), 3);
    }

    private static void ringOfRefuses() {
        Edges.says(9, "BAD.");
        dueWordsOnly("ringOf", (x, word) -> x.ringOf(word));
    }

    private static void ring() {
        Edges.says(10, "The LEAST of RING r.");
        int[][] last = {{2, 1, 1}, {5, 1, 4}, {2, 14, 1181}, {3, 9, 2194}, {4, 7, 2343}, {5, 6, 2634}};
        for (int[] r : last) {
            WordWheel x = wheel(r[0], r[1]);
            due("RING 0", x.ring(0), 0);
            due("RING 1", x.ring(1), 1);
            due("the last RING", x.ring(r[2]), x.count(2) - 1);
            due("one more", x.ring(r[2] + 1), BAD);
        }
    }

    private static void ringRefuses() {
        Edges.says(10, "BAD.");
        due("the last one that is taken", States.busy().ring(10), 26);
        for (int r : new int[] {-1, 11, 12, 26, 27, LOW, HIGH}) {
            Edges.refused("ring(" + r + ") of 11", States::busy, x -> x.ring(r), BAD);
        }
        for (int r : new int[] {-1, 4, 7}) {
            Edges.refused("ring(" + r + ") of 4", States::fresh, x -> x.ring(r), BAD);
        }
    }

    private static void below() {
        Edges.says(11, "How many WORDS have a LEAST below a WORD (any).");
        WordWheel x = wheel(2, 4);
        due("none below 0", x.below(0), 0);
        due("WORD 0 below 1", x.below(1), 1);
        due("2, which is no LEAST", x.below(2), 5);
        due("3, a LEAST that is not counted itself", x.below(3), 5);
        due("4, no LEAST again", x.below(4), 9);
        due("all but the last below the last", x.below(15), 15);
        due("8, above every LEAST but the last", x.below(8), 15);
        x.wheel(5, 1);
        due("one LETTER", x.below(4), 4);
        x.wheel(3, 9);
        due("the last of the most", x.below(19682), 19682);
    }

    private static void belowRefuses() {
        Edges.says(11, "BAD.");
        dueWordsOnly("below", (x, word) -> x.below(word));
    }

    private static void content() {
        Edges.says(12, "How many RINGS have so many of LETTERS 0, 1, 2, 3, 4.");
        WordWheel x = wheel(5, 6);
        due("only 0", x.content(6, 0, 0, 0, 0), 1);
        due("only 4", x.content(0, 0, 0, 0, 6), 1);
        due("one other", x.content(5, 0, 0, 0, 1), 1);
        due("two of three", x.content(2, 0, 2, 0, 2), 16);
        x.wheel(2, 14);
        due("the most", x.content(7, 7, 0, 0, 0), 246);
        x.wheel(5, 1);
        due("one LETTER", x.content(0, 0, 0, 1, 0), 1);
    }

    private static void contentTogether() {
        Edges.says(12, "BAD: not N together");
        due("3 together", States.busy().content(1, 1, 1, 0, 0), 2);
        int[][] bad = {{0, 0, 0, 0, 0}, {1, 1, 0, 0, 0}, {2, 1, 1, 0, 0}, {4, 0, 0, 0, 0}, {HIGH, HIGH, 5, 0, 0}, {HIGH, 0, 0, 0, 0}};
        dueBadContents(bad);
    }

    private static void dueBadContents(int[][] bad) {
        for (int[] b : bad) {
            Edges.refused("content(" + b[0] + ", " + b[1] + ", " + b[2] + ", " + b[3] + ", " + b[4] + ")", States::busy,
                    x -> x.content(b[0], b[1], b[2], b[3], b[4]), BAD);
        }
    }

    private static void contentBelow0() {
        Edges.says(12, "below 0");
        int[][] bad = {
            {-1, 4, 0, 0, 0}, {4, -1, 0, 0, 0}, {4, 0, -1, 0, 0}, {4, 0, 0, -1, 0}, {4, 0, 0, 0, -1}, {LOW, LOW, 3, 0, 0},
            {3, 0, 0, LOW, LOW}, {2, 2, -1, 0, 0}
        };
        dueBadContents(bad);
        due("0 is not below 0", States.busy().content(3, 0, 0, 0, 0), 1);
    }

    private static void contentOfNoLetter() {
        Edges.says(12, "or above 0 of a LETTER that there is not.");
        dueBadContents(new int[][] {{2, 0, 0, 1, 0}, {2, 0, 0, 0, 1}, {0, 0, 0, 3, 0}, {3, 0, 0, 1, -1}, {3, 0, 0, -1, 1}, {3, 0, 0, 1, 0}});
        due("the last LETTER that there is", States.busy().content(2, 0, 1, 0, 0), 1);
        due("K 2: two LETTERS", wheel(2, 2).content(1, 1, 0, 0, 0), 1);
        due("K 2: LETTER 2", wheel(2, 2).content(1, 0, 1, 0, 0), BAD);
        due("K 4: LETTER 3", wheel(4, 2).content(1, 0, 0, 1, 0), 1);
        due("K 4: LETTER 4", wheel(4, 2).content(1, 0, 0, 0, 1), BAD);
        due("K 5: LETTER 4", wheel(5, 2).content(1, 0, 0, 0, 1), 1);
    }
}
