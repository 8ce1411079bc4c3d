/** Promises 23 to 26, with answers written out. */
public final class RoundsTest {
    private static final int BAD = -2, NOT = -3;
    private static final int LOW = Integer.MIN_VALUE, HIGH = Integer.MAX_VALUE;

    public static void main(String[] args) {
        leastRound();
        greedyRound();
        cycleRound();
        roundRefuses();
        roundStays();
        letter();
        place();
        way();
        everyWordStandsOnce();
        Due.end();
    }

    private static void due(String call, long got, long want) {
        Due.due(call, got, want);
    }

    private static void dueLetters(String what, WordWheel x, String letters) {
        for (int i = 0; i < letters.length(); i++) {
            due(what + ": letter " + i, x.letter(i), letters.charAt(i) - '0');
        }
        due(what + ": none behind", x.letter(letters.length()), BAD);
    }

    private static void leastRound() {
        WordWheel x = new WordWheel();
        due("23: at first", x.round(0), 8);
        dueLetters("23: 2, 3", x, "00010111");
        x.wheel(2, 4);
        due("23: ALL", x.round(0), 16);
        dueLetters("23: 2, 4", x, "0000100110101111");
        x.wheel(3, 2);
        x.round(0);
        dueLetters("23: 3, 2", x, "001021122");
        x.wheel(2, 6);
        x.round(0);
        dueLetters("23: 2, 6", x, "0" + "000001" + "000011" + "000101" + "000111" + "001" + "001011" + "001101" + "001111"
                + "01" + "010111" + "011" + "011111" + "1");
        x.wheel(5, 1);
        x.round(0);
        dueLetters("23: 5, 1", x, "01234");
    }

    private static void greedyRound() {
        WordWheel x = new WordWheel();
        due("23: ALL", x.round(1), 8);
        dueLetters("23: greedy 2, 3", x, "00011101");
        x.wheel(2, 4);
        x.round(1);
        dueLetters("23: greedy 2, 4", x, "0000111101100101");
        x.wheel(3, 2);
        x.round(1);
        dueLetters("23: greedy 3, 2", x, "002212011");
        x.wheel(4, 1);
        x.round(1);
        dueLetters("23: greedy 4, 1", x, "0321");
        x.wheel(2, 1);
        x.round(1);
        dueLetters("23: greedy 2, 1", x, "01");
    }

    private static void cycleRound() {
        WordWheel x = new WordWheel();
        x.wheel(2, 4);
        x.join();
        due("23: ALL", x.round(2), 16);
        // 0 1 3 7 15 14 13 11 6 12 9 2 5 10 4 8
        dueLetters("23: cycle 2, 4", x, "0000111101100101");
        x.wheel(3, 1);
        x.sum(2);
        due("23: ALL", x.round(2), 3);
        dueLetters("23: cycle 3, 1", x, "021");
        x.wheel(2, 3);
        x.factor(1, 1);
        due("23: two cycles", x.round(2), NOT);
        due("17: they become one", x.exchange(0, 4), 1);
        due("23: ALL", x.round(2), 8);
        // 0 1 2 5 3 7 6 4
        dueLetters("23: cycle 2, 3", x, "00010111");
    }

    private static void roundRefuses() {
        WordWheel x = new WordWheel();
        for (int kind : new int[] {-1, 3, HIGH, LOW}) {
            due("23: round " + kind, x.round(kind), BAD);
        }
        due("23: more than one cycle", x.round(2), NOT);
        due("23: none is there", x.count(4), -1);
        x.round(1);
        x.factor(0, 0);
        due("23: not right", x.round(2), NOT);
        due("23: bad", x.round(3), BAD);
        due("23: it stays", x.count(4), 1);
        due("23: it stays", x.letter(3), 1);
        due("23: the others need no register", x.round(0), 8);
    }

    private static void roundStays() {
        WordWheel x = new WordWheel();
        x.wheel(2, 4);
        x.join();
        x.round(2);
        x.back();
        x.factor(1, 1);
        x.sum(1);
        due("23: it stays when the register changes", x.count(4), 2);
        due("24: letter", x.letter(4), 1);
        due("25: place", x.place(15), 4);
    }

    private static void letter() {
        WordWheel x = new WordWheel();
        due("24: without one", x.letter(0), BAD);
        x.round(0);
        due("24: first", x.letter(0), 0);
        due("24: last", x.letter(7), 1);
        for (int i : new int[] {-1, 8, HIGH, LOW}) {
            due("24: letter " + i, x.letter(i), BAD);
        }
        x.wheel(2, 3);
        due("24: behind wheel()", x.letter(0), BAD);
    }

    private static void place() {
        WordWheel x = new WordWheel();
        due("25: without one", x.place(0), NOT);
        due("25: bad comes ahead", x.place(8), BAD);
        due("25: bad comes ahead", x.place(-1), BAD);
        x.round(0);
        // 00010111, round and round
        int[] places = {0, 1, 2, 4, 7, 3, 6, 5};
        for (int w = 0; w < 8; w++) {
            due("25: place " + w, x.place(w), places[w]);
        }
        x.round(1);
        // 00011101
        int[] others = {0, 1, 6, 2, 7, 5, 4, 3};
        for (int w = 0; w < 8; w++) {
            due("25: greedy place " + w, x.place(w), others[w]);
        }
        for (int word : new int[] {-1, 8, HIGH, LOW}) {
            due("25: no word " + word, x.place(word), BAD);
        }
    }

    private static void way() {
        WordWheel x = new WordWheel();
        due("26: without one", x.way(0, 0), BAD);
        x.round(1);
        due("26: none", x.way(3, 3), 0);
        due("26: on", x.way(2, 7), 5);
        due("26: round", x.way(7, 2), 3);
        due("26: round", x.way(7, 0), 1);
        due("26: on", x.way(0, 7), 7);
        int[][] bad = {{-1, 0}, {0, -1}, {8, 0}, {0, 8}, {HIGH, 0}, {0, HIGH}, {LOW, 0}, {0, LOW}};
        for (int[] b : bad) {
            due("26: way " + b[0] + " " + b[1], x.way(b[0], b[1]), BAD);
        }
    }

    private static void everyWordStandsOnce() {
        int[][] shapes = {{2, 14}, {3, 9}, {4, 7}, {5, 6}, {2, 1}, {3, 1}, {4, 2}};
        for (int[] shape : shapes) {
            for (int kind = 0; kind < 2; kind++) {
                everyWordStandsOnce(shape[0], shape[1], kind);
            }
        }
    }

    private static void everyWordStandsOnce(int k, int n, int kind) {
        int all = (int) Math.round(Math.pow(k, n));
        int[] letters = new int[all];
        int[] places = new int[all];
        WordWheel x = null;
        for (int i = 0; i < all; i++) {
            if (i % 250 == 0) {
                // an object has 512 calls
                x = new WordWheel();
                x.wheel(k, n);
                due("23: ALL", x.round(kind), all);
            }
            letters[i] = x.letter(i);
            places[i] = x.place(i);
        }
        boolean[] come = new boolean[all];
        for (int p = 0; p < all; p++) {
            int word = 0;
            for (int j = 0; j < n; j++) {
                word = word * k + letters[(p + j) % all];
            }
            Due.due("25: stands at " + p, !come[word] && places[word] == p);
            come[word] = true;
        }
    }
}
