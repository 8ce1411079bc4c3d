import java.util.Arrays;

/** Promises 1 to 12, with answers written out. */
public final class WordsTest {
    private static final int BAD = -2, NOT = -3;
    private static final int LOW = Integer.MIN_VALUE, HIGH = Integer.MAX_VALUE;

    public static void main(String[] args) {
        newObject();
        wheelTellsAll();
        wheelRefuses();
        wheelBeginsAnew();
        turn();
        leastAndSteps();
        size();
        even();
        rings();
        ringOfAndRing();
        below();
        content();
        contentRefuses();
        Due.end();
    }

    private static void due(String call, long got, long want) {
        Due.due(call, got, want);
    }

    private static void newObject() {
        WordWheel x = new WordWheel();
        due("1: count(0)", x.count(0), 2);
        due("1: count(1)", x.count(1), 3);
        due("1: count(2)", x.count(2), 8);
        due("1: count(3)", x.count(3), 0);
        due("1: count(4)", x.count(4), -1);
        due("1: count(5)", x.count(5), 0);
        int[] leads = {0, 2, 4, 6, 1, 3, 5, 7};
        for (int w = 0; w < 8; w++) {
            due("1: go " + w, x.go(w), leads[w]);
        }
        due("1: place", x.place(0), NOT);
        due("1: letter", x.letter(0), BAD);
        due("1: found", x.found(), -1);
        due("1: part", x.part(0), BAD);
        due("1: coefficient", x.coefficient(1), BAD);
        for (int t = 0; t < 4; t++) {
            due("1: tape " + t, x.lose(t), -11);
        }
    }

    private static void wheelTellsAll() {
        int[] longest = {0, 0, 14, 9, 7, 6};
        WordWheel x = new WordWheel();
        for (int k = 2; k <= 5; k++) {
            int all = 1;
            for (int n = 1; n <= longest[k]; n++) {
                all *= k;
                due("2: wheel " + k + " " + n, x.wheel(k, n), all);
                due("2: K", x.count(0), k);
                due("2: N", x.count(1), n);
                due("2: ALL", x.count(2), all);
                due("2: last word", x.turn(all - 1, 1), all - 1);
                due("2: no word", x.turn(all, 1), BAD);
            }
            due("2: too long " + k, x.wheel(k, longest[k] + 1), BAD);
        }
    }

    private static void wheelRefuses() {
        WordWheel x = new WordWheel();
        x.wheel(3, 3);
        x.factor(1, 2);
        x.exchange(0, 9);
        x.round(1);
        x.tape(0, 0, 1);
        x.find(0, 0, 1, 0);
        long was = x.digest();
        int[][] bad = {
            {1, 3}, {0, 3}, {-2, 3}, {6, 1}, {2, 0}, {2, -1}, {2, 15}, {5, 14}, {4, 8}, {3, 10}, {5, 7}, {HIGH, 1},
            {LOW, 1}, {2, HIGH}, {2, LOW}, {HIGH, HIGH}, {5, 13}, {4, 14}, {3, 14}, {1, 1}, {65536, 2}
        };
        for (int[] shape : bad) {
            due("2: wheel " + Arrays.toString(shape), x.wheel(shape[0], shape[1]), BAD);
        }
        due("2: nothing changed", x.digest(), was);
        due("2: found stays", x.found(), 0);
        due("2: exchanges stay", x.count(3), 1);
    }

    private static void wheelBeginsAnew() {
        WordWheel x = new WordWheel();
        x.factor(2, 1);
        x.sum(1);
        x.exchange(0, 4);
        x.round(0);
        x.tape(1, 2, 3);
        x.put(1, 2, 1, -7);
        x.get(1, 0, 0);
        x.put(1, 2, 0, 1);
        x.find(1, 0, 1, 0);
        due("2: wheel", x.wheel(2, 3), 8);
        due("2: no exchanges", x.count(3), 0);
        due("2: no round", x.count(4), -1);
        due("2: place", x.place(0), NOT);
        due("2: found", x.found(), -1);
        due("2: back", x.back(), NOT);
        for (int w = 0; w < 8; w++) {
            due("2: turns " + w, x.go(w), x.turn(w, 1));
        }
        due("2: sum was", x.sum(0), 0);
        due("2: factor was", x.factor(2, 0), 0);
        due("2: first factor was", x.factor(0, 1), 1);
        due("2: tapes stay", x.get(1, 2, 1), -7);
        due("2: the finding stays", x.count(5), 3);
    }

    private static void turn() {
        WordWheel x = new WordWheel();
        x.wheel(3, 4);
        // 1 = 0001, 5 = 0012, 44 = 1122
        due("3: by 0", x.turn(5, 0), 5);
        due("3: by 1", x.turn(5, 1), 15);
        due("3: by 2", x.turn(5, 2), 45);
        due("3: by 3", x.turn(5, 3), 55);
        due("3: by 4", x.turn(5, 4), 5);
        due("3: by 1000", x.turn(5, 1000), 5);
        due("3: by 999", x.turn(5, 999), 55);
        due("3: by 2 of 1122", x.turn(44, 2), 76);
        due("3: by 1001", x.turn(5, 1001), BAD);
        due("3: by -1", x.turn(5, -1), BAD);
        due("3: word 81", x.turn(81, 0), BAD);
        due("3: word -1", x.turn(-1, 0), BAD);
        due("3: word 80", x.turn(80, 3), 80);
        due("3: words", x.turn(HIGH, 0), BAD);
        due("3: words", x.turn(LOW, 0), BAD);
        due("3: by most", x.turn(0, HIGH), BAD);
        due("3: by least", x.turn(0, LOW), BAD);
        x.wheel(5, 1);
        due("3: N 1", x.turn(3, 7), 3);
    }

    private static void leastAndSteps() {
        WordWheel x = new WordWheel();
        x.wheel(2, 6);
        // word, its LEAST, the steps to it
        int[][] rows = {
            {0, 0, 0}, {63, 63, 0}, {32, 1, 1}, {1, 1, 0}, {2, 1, 5}, {36, 9, 1}, {18, 9, 2}, {9, 9, 0}, {42, 21, 1},
            {21, 21, 0}, {52, 13, 4}, {50, 11, 2}, {44, 11, 4}, {62, 31, 5}, {47, 31, 1}
        };
        for (int[] row : rows) {
            due("4: least " + row[0], x.least(row[0]), row[1]);
            due("5: steps " + row[0], x.steps(row[0]), row[2]);
            due("5: steps lead to it " + row[0], x.turn(row[0], row[2]), row[1]);
        }
        for (int word : new int[] {-1, 64, HIGH, LOW}) {
            due("4: no word " + word, x.least(word), BAD);
            due("5: no word " + word, x.steps(word), BAD);
        }
        x.wheel(4, 1);
        due("4: N 1", x.least(3), 3);
        due("5: N 1", x.steps(3), 0);
    }

    private static void size() {
        WordWheel x = new WordWheel();
        x.wheel(2, 6);
        int[][] rows = {{0, 1}, {63, 1}, {1, 6}, {9, 3}, {36, 3}, {27, 3}, {21, 2}, {42, 2}, {5, 6}};
        for (int[] row : rows) {
            due("6: size " + row[0], x.size(row[0]), row[1]);
        }
        for (int word : new int[] {-1, 64, HIGH, LOW}) {
            due("6: no word " + word, x.size(word), BAD);
        }
        x.wheel(5, 1);
        due("6: N 1", x.size(4), 1);
        x.wheel(3, 4);
        due("6: 0101", x.size(10), 2);
        due("6: 0102", x.size(11), 4);
    }

    private static void even() {
        WordWheel x = new WordWheel();
        x.wheel(2, 6);
        // 001011 backward is 110100, whose LEAST is 001101
        int[][] rows = {{0, 1}, {11, 0}, {13, 0}, {22, 0}, {52, 0}, {5, 1}, {21, 1}, {31, 1}, {3, 1}, {7, 1}, {19, 0}};
        for (int[] row : rows) {
            due("7: even " + row[0], x.even(row[0]), row[1]);
        }
        for (int word : new int[] {-1, 64, HIGH, LOW}) {
            due("7: no word " + word, x.even(word), BAD);
        }
        x.wheel(3, 3);
        due("7: 012", x.even(5), 0);
        due("7: 021", x.even(7), 0);
        due("7: 011", x.even(4), 1);
    }

    private static void rings() {
        WordWheel x = new WordWheel();
        int[][] rows = {
            {2, 1, 2}, {2, 2, 3}, {2, 3, 4}, {2, 4, 6}, {2, 5, 8}, {2, 6, 14}, {2, 12, 352}, {2, 14, 1182}, {3, 3, 11},
            {3, 9, 2195}, {4, 7, 2344}, {4, 2, 10}, {5, 1, 5}, {5, 6, 2635}
        };
        due("8: at first", x.rings(), 4);
        for (int[] row : rows) {
            x.wheel(row[0], row[1]);
            due("8: rings " + row[0] + " " + row[1], x.rings(), row[2]);
        }
    }

    private static void ringOfAndRing() {
        WordWheel x = new WordWheel();
        x.wheel(2, 6);
        int[] leasts = {0, 1, 3, 5, 7, 9, 11, 13, 15, 21, 23, 27, 31, 63};
        for (int r = 0; r < leasts.length; r++) {
            due("10: ring " + r, x.ring(r), leasts[r]);
            due("9: ringOf " + leasts[r], x.ringOf(leasts[r]), r);
            due("9: ringOf turned " + leasts[r], x.ringOf(x.turn(leasts[r], 2)), r);
        }
        for (int r : new int[] {-1, 14, 15, 63, HIGH, LOW}) {
            due("10: no ring " + r, x.ring(r), BAD);
        }
        for (int word : new int[] {-1, 64, HIGH, LOW}) {
            due("9: no word " + word, x.ringOf(word), BAD);
        }
        x.wheel(3, 9);
        due("9: the last of 3, 9", x.ringOf(19682), 2194);
        due("10: the last of 3, 9", x.ring(2194), 19682);
        due("10: none behind", x.ring(2195), BAD);
    }

    private static void below() {
        WordWheel x = new WordWheel();
        x.wheel(2, 4);
        // RINGS: 0000; 0001 of 4; 0011 of 4; 0101 of 2; 0111 of 4; 1111
        int[] due = {0, 1, 5, 5, 9, 9, 11, 11, 15, 15, 15, 15, 15, 15, 15, 15};
        for (int w = 0; w < 16; w++) {
            due("11: below " + w, x.below(w), due[w]);
        }
        for (int word : new int[] {-1, 16, HIGH, LOW}) {
            due("11: no word " + word, x.below(word), BAD);
        }
        x.wheel(5, 1);
        due("11: N 1", x.below(4), 4);
        x.wheel(3, 9);
        due("11: the last of 3, 9", x.below(19682), 19682);
        due("11: the first", x.below(0), 0);
    }

    private static void content() {
        WordWheel x = new WordWheel();
        x.wheel(2, 6);
        int[] due = {1, 1, 3, 4, 3, 1, 1};
        for (int ones = 0; ones <= 6; ones++) {
            due("12: ones " + ones, x.content(6 - ones, ones, 0, 0, 0), due[ones]);
        }
        x.wheel(3, 3);
        due("12: one of each", x.content(1, 1, 1, 0, 0), 2);
        x.wheel(4, 4);
        due("12: one of each", x.content(1, 1, 1, 1, 0), 6);
        due("12: two and two", x.content(0, 2, 0, 2, 0), 2);
        x.wheel(5, 6);
        due("12: 2 1 1 1 1", x.content(2, 1, 1, 1, 1), 60);
        due("12: 2 2 2", x.content(2, 0, 2, 0, 2), 16);
        due("12: only 4", x.content(0, 0, 0, 0, 6), 1);
    }

    private static void contentRefuses() {
        WordWheel x = new WordWheel();
        x.wheel(3, 4);
        int[][] bad = {
            {1, 1, 1, 0, 0}, {2, 2, 1, 0, 0}, {1, 1, 1, 1, 0}, {1, 1, 1, 0, 1}, {5, -1, 0, 0, 0}, {-1, 5, 0, 0, 0},
            {4, 0, 1, -1, 0}, {4, 0, 1, 0, -1}, {2, 1, 1, 1, -1}, {0, 0, 0, 0, 0}, {0, 0, 0, 4, 0}, {HIGH, HIGH, 6, 0, 0},
            {LOW, LOW, 4, 0, 0}, {2, 0, -1, 3, 0}
        };
        for (int[] v : bad) {
            due("12: " + Arrays.toString(v), x.content(v[0], v[1], v[2], v[3], v[4]), BAD);
        }
        due("12: below 0 of a LETTER that there is not", x.content(4, 0, 0, -1, 0), BAD);
        due("12: all well", x.content(2, 1, 1, 0, 0), 3);
    }
}
