/** Promises 13 to 22, with answers written out. */
public final class RegisterTest {
    private static final int BAD = -2, NOT = -3, FULL = -4;
    private static final int LOW = Integer.MIN_VALUE, HIGH = Integer.MAX_VALUE;

    public static void main(String[] args) {
        factor();
        sum();
        changesTakeExchangesAway();
        go();
        right();
        exchange();
        exchangeRefuses();
        exchangesAreFull();
        back();
        cyclesAndTheirNumbers();
        notComesAhead();
        join();
        joinRefuses();
        joinUpToTheMost();
        joinToJustTheMost();
        joinManyAtOnce();
        Due.end();
    }

    private static void due(String call, long got, long want) {
        Due.due(call, got, want);
    }

    private static void factor() {
        WordWheel x = new WordWheel();
        x.wheel(3, 4);
        due("13: it was", x.factor(2, 2), 0);
        due("13: it was", x.factor(2, 1), 2);
        due("13: it was", x.factor(0, 2), 1);
        due("13: it was", x.factor(0, 0), 2);
        due("13: it was", x.factor(3, 1), 0);
        long was = x.digest();
        int[][] bad = {{-1, 0}, {4, 0}, {0, -1}, {0, 3}, {HIGH, 0}, {LOW, 0}, {0, HIGH}, {0, LOW}, {13, 1}, {14, 1}};
        for (int[] b : bad) {
            due("13: factor " + b[0] + " " + b[1], x.factor(b[0], b[1]), BAD);
        }
        due("13: nothing changed", x.digest(), was);
        // 0 1 2 2 leads on by 1 times LETTER 2 and 1 times LETTER 3
        due("13: go", x.go(17), 17 % 27 * 3 + 1);
    }

    private static void sum() {
        WordWheel x = new WordWheel();
        x.wheel(5, 2);
        due("14: it was", x.sum(3), 0);
        due("14: it was", x.sum(4), 3);
        due("14: go", x.go(0), 4);
        due("14: go 4 0", x.go(20), 3);
        for (int v : new int[] {-1, 5, HIGH, LOW}) {
            due("14: sum " + v, x.sum(v), BAD);
        }
        due("14: it stays", x.sum(0), 4);
    }

    private static void changesTakeExchangesAway() {
        WordWheel x = new WordWheel();
        x.exchange(0, 4);
        due("13: refused", x.factor(3, 0), BAD);
        due("13: exchanges stay", x.count(3), 1);
        due("13: the same factor", x.factor(1, 0), 0);
        due("13: no exchanges", x.count(3), 0);
        due("13: go", x.go(0), 0);
        x.exchange(0, 4);
        due("14: refused", x.sum(2), BAD);
        due("14: exchanges stay", x.go(0), 1);
        due("14: the same sum", x.sum(0), 0);
        due("14: no exchanges", x.count(3), 0);
        due("14: go", x.go(0), 0);
        due("14: cycles", x.cycles(), 4);
    }

    private static void go() {
        WordWheel x = new WordWheel();
        x.wheel(4, 3);
        x.factor(0, 3);
        x.factor(1, 2);
        x.factor(2, 1);
        x.sum(2);
        // 3 2 1: 9 and 4 and 1 and 2 are 16, so 2 1 0; 1 2 3: 3 and 4 and 3 and 2 are 12, so 2 3 0
        due("15: 321", x.go(57), 36);
        due("15: 123", x.go(27), 44);
        due("15: 000", x.go(0), 2);
        due("15: 333", x.go(63), 60);
        for (int word : new int[] {-1, 64, HIGH, LOW}) {
            due("15: no word " + word, x.go(word), BAD);
        }
        x.factor(0, 0);
        due("15: not right", x.go(57), 39);
        x.wheel(5, 1);
        x.factor(0, 2);
        x.sum(1);
        due("15: N 1", x.go(3), 2);
    }

    private static void right() {
        WordWheel x = new WordWheel();
        boolean[][] right = {
            {}, {}, {false, true}, {false, true, true}, {false, true, false, true}, {false, true, true, true, true}
        };
        for (int k = 2; k <= 5; k++) {
            for (int n = 1; n <= 3; n++) {
                x.wheel(k, n);
                x.factor(n - 1, k - 1);
                for (int v = 0; v < k; v++) {
                    x.factor(0, v);
                    due("16: right " + k + " " + n + " " + v, x.right(), right[k][v] ? 1 : 0);
                }
            }
        }
    }

    private static void exchange() {
        WordWheel x = new WordWheel();
        x.wheel(2, 4);
        due("17: two cycles become one", x.exchange(0, 8), 5);
        due("17: go", x.go(0), 1);
        due("17: go", x.go(8), 0);
        due("17: others stay", x.go(7), 14);
        due("17: the same again splits it", x.exchange(8, 0), 6);
        due("17: it turns again", x.go(8), 1);
        due("17: both count", x.count(3), 2);
        x.wheel(3, 2);
        due("17: 01 and 21", x.exchange(1, 7), 5);
        due("17: 11 and 21", x.exchange(4, 7), 4);
        due("17: go 01", x.go(1), 5);
        due("17: go 11", x.go(4), 3);
        due("17: go 21", x.go(7), 4);
        x.wheel(5, 1);
        due("17: N 1", x.exchange(2, 3), 4);
        due("17: N 1", x.go(2), 3);
    }

    private static void exchangeRefuses() {
        WordWheel x = new WordWheel();
        x.wheel(3, 3);
        long was = x.digest();
        int[][] bad = {
            {0, 0}, {0, 1}, {0, 3}, {0, 10}, {5, 13}, {-1, 8}, {0, 27}, {27, 0}, {9, -9}, {-9, 0}, {18, 27}, {26, 35},
            {HIGH, 0}, {LOW, 0}, {0, HIGH}, {0, LOW}, {9, 9}
        };
        for (int[] b : bad) {
            due("17: exchange " + b[0] + " " + b[1], x.exchange(b[0], b[1]), BAD);
        }
        due("17: nothing changed", x.digest(), was);
        x.factor(0, 0);
        due("17: not right", x.exchange(0, 9), NOT);
        due("17: bad comes ahead", x.exchange(0, 1), BAD);
        due("17: none is made", x.count(3), 0);
    }

    private static void exchangesAreFull() {
        WordWheel x = new WordWheel();
        x.wheel(2, 3);
        for (int i = 1; i <= 400; i++) {
            due("17: exchange " + i, x.exchange(1, 5), i % 2 == 1 ? 3 : 4);
        }
        long was = x.digest();
        due("17: the most", x.count(3), 400);
        due("17: full", x.exchange(1, 5), FULL);
        due("17: bad comes ahead", x.exchange(1, 4), BAD);
        due("22: full", x.join(), FULL);
        due("17: nothing changed", x.digest(), was);
        due("18: back", x.back(), 399);
        due("17: room again", x.exchange(0, 4), 2);
        due("17: full", x.exchange(0, 4), FULL);
    }

    private static void back() {
        WordWheel x = new WordWheel();
        x.wheel(2, 5);
        due("18: none", x.back(), NOT);
        long was = x.digest();
        x.exchange(1, 17);
        long one = x.digest();
        x.exchange(0, 16);
        x.exchange(17, 1);
        due("18: two are left", x.back(), 2);
        due("18: cycles", x.cycles(), 6);
        due("18: one is left", x.back(), 1);
        due("18: as it was", x.digest(), one);
        due("18: cycles", x.cycles(), 7);
        due("18: none is left", x.back(), 0);
        due("18: as it was", x.digest(), was);
        due("18: none", x.back(), NOT);
        due("18: cycles", x.cycles(), 8);
    }

    private static void cyclesAndTheirNumbers() {
        WordWheel x = new WordWheel();
        x.wheel(2, 4);
        x.factor(1, 1);
        // x^4 = x + 1: 0000 alone, and the fifteen others
        due("19: cycles", x.cycles(), 2);
        due("20: of 0", x.cycleOf(0), 0);
        due("20: of 15", x.cycleOf(15), 1);
        due("21: least", x.cycle(1, 0), 1);
        due("21: words", x.cycle(1, 1), 15);
        due("21: words of 0", x.cycle(0, 1), 1);
        x.wheel(3, 2);
        x.factor(0, 2);
        // 00; 01 12 22 20 is not it: x leads from ab to b(2a)
        int[] numbers = {0, 1, 1, 1, 2, 2, 1, 2, 2};
        due("19: cycles", x.cycles(), 3);
        for (int w = 0; w < 9; w++) {
            due("20: cycleOf " + w, x.cycleOf(w), numbers[w]);
        }
        due("21: least", x.cycle(2, 0), 4);
        due("21: words", x.cycle(2, 1), 4);
        due("21: words", x.cycle(1, 1), 4);
        int[][] bad = {{3, 0}, {-1, 0}, {0, 2}, {0, -1}, {HIGH, 1}, {LOW, 1}, {0, HIGH}, {0, LOW}, {3, 1}, {9, 1}};
        for (int[] b : bad) {
            due("21: cycle " + b[0] + " " + b[1], x.cycle(b[0], b[1]), BAD);
        }
        for (int word : new int[] {-1, 9, HIGH, LOW}) {
            due("20: no word " + word, x.cycleOf(word), BAD);
        }
        due("19: behind an exchange", x.exchange(0, 3), 2);
        due("20: behind an exchange", x.cycleOf(4), 1);
        due("20: joined", x.cycleOf(1), 0);
        due("21: behind an exchange", x.cycle(0, 1), 5);
        due("21: least behind it", x.cycle(1, 0), 4);
        due("21: no such one", x.cycle(2, 0), BAD);
        due("18: back", x.back(), 0);
        due("20: split again", x.cycleOf(1), 1);
        due("21: split again", x.cycle(0, 1), 1);
    }

    private static void notComesAhead() {
        WordWheel x = new WordWheel();
        x.factor(0, 0);
        due("19: not right", x.cycles(), NOT);
        due("20: not right", x.cycleOf(0), NOT);
        due("20: not right, no word", x.cycleOf(-1), NOT);
        due("21: not right", x.cycle(0, 0), NOT);
        due("21: not right, no cycle", x.cycle(-1, 0), NOT);
        due("21: not right, no such thing", x.cycle(0, 2), NOT);
        x.factor(0, 1);
        due("20: right again", x.cycleOf(7), 3);
    }

    private static void join() {
        WordWheel x = new WordWheel();
        x.wheel(2, 4);
        due("22: made", x.join(), 5);
        due("22: cycles", x.cycles(), 1);
        due("22: count", x.count(3), 5);
        // 0 8, 1 9, 2 10, 3 11, 7 15: each joins two RINGS that were apart
        int[] leads = {1, 3, 5, 7, 8, 10, 12, 15, 0, 2, 4, 6, 9, 11, 13, 14};
        for (int w = 0; w < 16; w++) {
            due("22: go " + w, x.go(w), leads[w]);
        }
        due("22: again", x.join(), 0);
        due("18: the latest is taken back", x.back(), 4);
        due("18: it was 7 and 15", x.go(15), 15);
        due("20: 15 is alone", x.cycleOf(15), 1);
        due("22: that one again", x.join(), 1);
        x.wheel(3, 1);
        due("22: N 1", x.join(), 2);
        due("22: 0", x.go(0), 1);
        due("22: 1", x.go(1), 2);
        due("22: 2", x.go(2), 0);
    }

    private static void joinRefuses() {
        WordWheel x = new WordWheel();
        x.factor(0, 0);
        due("22: not right", x.join(), NOT);
        x.wheel(2, 14);
        long was = x.digest();
        due("22: too many", x.join(), FULL);
        due("22: none is made", x.count(3), 0);
        due("22: nothing changed", x.digest(), was);
        due("22: cycles", x.cycles(), 1182);
    }

    private static void joinUpToTheMost() {
        WordWheel x = new WordWheel();
        x.wheel(2, 12);
        due("22: 351 of them", x.join(), 351);
        x.wheel(2, 12);
        for (int i = 0; i < 50; i++) {
            x.exchange(1, 2049);
        }
        due("22: 401 would be", x.join(), FULL);
        due("22: none is made", x.count(3), 50);
        x.back();
        // one EXCHANGE has joined two cycles already
        due("22: 399 are", x.join(), 350);
        due("22: count", x.count(3), 399);
        due("22: one cycle", x.cycles(), 1);
        due("22: none to make", x.join(), 0);
        due("17: the last one", x.exchange(0, 2048), 2);
        due("22: two cycles and no room", x.join(), FULL);
        x.back();
        due("17: the last one", x.exchange(1, 2049), 2);
        x.back();
        due("22: cycles", x.cycles(), 1);
    }

    /** A pair of EXCHANGES that take one another back leaves the 11 cycles as they are. */
    private static void joinToJustTheMost() {
        WordWheel x = new WordWheel();
        x.wheel(3, 3);
        for (int i = 0; i < 392; i++) {
            x.exchange(1, 10);
        }
        due("22: 392 and 10 are too many", x.join(), FULL);
        x.back();
        due("22: 391 and 9 are not", x.join(), 9);
        due("22: the most", x.count(3), 400);
        due("22: none to make", x.join(), 0);
        for (int i = 0; i < 10; i++) {
            x.back();
        }
        due("22: 390 and 10 are not", x.join(), 10);
        due("22: the most", x.count(3), 400);
        due("22: one cycle", x.cycles(), 1);
    }

    private static void joinManyAtOnce() {
        WordWheel x = new WordWheel();
        x.wheel(4, 6);
        x.factor(0, 3);
        x.factor(3, 2);
        due("19: cycles", x.cycles(), 400);
        due("21: the last", x.cycle(399, 1) > 0 ? 1 : 0, 1);
        due("17: one more, and an exchange", x.exchange(x.cycle(1, 0), x.cycle(1, 0) + 1024), 399);
        due("22: the others", x.join(), 398);
        due("22: one cycle", x.cycles(), 1);
        x.sum(0);
        due("22: all of them", x.join(), 399);
        due("22: one cycle", x.cycles(), 1);
        due("23: a round of it", x.round(2), 4096);
    }
}
