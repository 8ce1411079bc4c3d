/** The edges of promises 23 to 26: rounds, their letters and their places. */
final class EdgesOfRounds {
    private static final int NONE = Edges.NONE, BAD = Edges.BAD, NOT = Edges.NOT;
    private static final int LOW = Edges.LOW, HIGH = Edges.HIGH;

    private EdgesOfRounds() {
    }

    static void run() {
        round();
        roundRefuses();
        roundNotRight();
        roundOfMoreCycles();
        letter();
        letterRefuses();
        place();
        placeRefuses();
        placeWithoutRound();
        way();
        wayRefuses();
    }

    private static void due(String call, long got, long want) {
        Edges.due(call, got, want);
    }

    private static WordWheel rounded(int k, int n, int kind) {
        WordWheel x = new WordWheel();
        x.wheel(k, n);
        x.round(kind);
        return x;
    }

    private static void round() {
        Edges.says(23, "THE ROUND is the LEAST ROUND (0), the GREEDY ROUND (1), the CYCLE ROUND (2): ALL.");
        WordWheel x = new WordWheel();
        x.wheel(3, 2);
        x.factor(0, 2);
        x.join();
        due("round(0)", x.round(0), 9);
        due("count(4)", x.count(4), 0);
        due("LETTER 2 of 001021122", x.letter(2), 1);
        due("round(1)", x.round(1), 9);
        due("count(4)", x.count(4), 1);
        due("LETTER 2 of 002212011", x.letter(2), 2);
        due("round(2)", x.round(2), 9);
        due("count(4)", x.count(4), 2);
        int word = 0;
        for (int i = 0; i < 9; i++) {
            due("LETTER " + i + " of the CYCLE", x.letter(i), word / 3);
            word = x.go(word);
        }
        due("round(0) again", x.round(0), 9);
        due("LETTER 2 of 001021122", x.letter(2), 1);
        int[][] shapes = {{2, 1, 2}, {5, 1, 5}, {2, 14, 16384}, {3, 9, 19683}, {4, 7, 16384}, {5, 6, 15625}};
        for (int[] s : shapes) {
            x.wheel(s[0], s[1]);
            for (int kind = 0; kind < 2; kind++) {
                due("round(" + kind + ") of K " + s[0] + ", N " + s[1], x.round(kind), s[2]);
                due("the last LETTER", x.letter(s[2] - 1) > 0 ? 1 : 0, 1);
                due("the first WORD", x.place(0), 0);
                due("none behind the last LETTER", x.letter(s[2]), BAD);
            }
        }
    }

    private static void roundRefuses() {
        Edges.says(23, "BAD");
        due("kind 0 is taken", States.busy().round(0), 27);
        for (int kind : new int[] {-1, 3, LOW, HIGH}) {
            Edges.refused("round(" + kind + ")", States::busy, x -> x.round(kind), BAD);
            Edges.refused("round(" + kind + ") without one", States::noRound, x -> x.round(kind), BAD);
        }
        Edges.refused("round(3), not RIGHT", States::notRight, x -> x.round(3), BAD);
    }

    private static void roundNotRight() {
        Edges.says(23, "NOT: 2, and the REGISTER is not RIGHT");
        Edges.refused("round(2)", States::notRight, x -> x.round(2), NOT);
        due("round(0) needs no REGISTER", States.notRight().round(0), 27);
        due("round(1) needs no REGISTER", States.notRight().round(1), 27);
        WordWheel x = new WordWheel();
        x.wheel(4, 1);
        x.sum(1);
        x.factor(0, 2);
        due("K 4, F 0 is 2", x.round(2), NOT);
        due("no ROUND", x.count(4), NONE);
        x.factor(0, 1);
        due("K 4, F 0 is 1", x.round(2), 4);
    }

    private static void roundOfMoreCycles() {
        Edges.says(23, "or has more than one CYCLE.");
        Edges.refused("four CYCLES", States::fresh, x -> x.round(2), NOT);
        Edges.refused("two CYCLES", EdgesOfRounds::twoCycles, x -> x.round(2), NOT);
        Edges.refused("two of 400 EXCHANGES", States::full, x -> x.round(2), NOT);
        due("one of 400 EXCHANGES", States.fullOfOneCycle().round(2), 3125);
        due("round(0) needs not one", twoCycles().round(0), 8);
        WordWheel x = twoCycles();
        x.exchange(3, 7);
        due("one CYCLE", x.round(2), 8);
    }

    /** 0 1 2 4 3 6 5 in one, 7 alone; with a GREEDY ROUND. */
    private static WordWheel twoCycles() {
        WordWheel x = new WordWheel();
        x.exchange(0, 4);
        x.exchange(1, 5);
        x.round(1);
        return x;
    }

    private static void letter() {
        Edges.says(24, "LETTER i of THE ROUND.");
        WordWheel x = rounded(3, 2, 0);
        due("the first", x.letter(0), 0);
        due("the last", x.letter(8), 2);
        x = rounded(3, 9, 1);
        due("the first", x.letter(0), 0);
        due("the last 0 of N", x.letter(8), 0);
        due("the one behind", x.letter(9), 2);
        due("the last", x.letter(19682), 1);
        x = rounded(2, 1, 0);
        due("the first", x.letter(0), 0);
        due("the last", x.letter(1), 1);
    }

    private static void letterRefuses() {
        Edges.says(24, "BAD: also without one.");
        due("letter(26) is taken", States.busy().letter(26) >= 0 ? 1 : 0, 1);
        for (int i : new int[] {-1, 27, 28, LOW, HIGH}) {
            Edges.refused("letter(" + i + ")", States::busy, x -> x.letter(i), BAD);
        }
        for (int i : new int[] {0, 26, 27, -1}) {
            Edges.refused("letter(" + i + ") without one", States::noRound, x -> x.letter(i), BAD);
        }
        // what was a LETTER of a longer ROUND
        Edges.refused("letter(27) behind a longer one", EdgesOfRounds::shorter, x -> x.letter(27), BAD);
        Edges.refused("letter(19682) behind a longer one", EdgesOfRounds::shorter, x -> x.letter(19682), BAD);
    }

    private static WordWheel shorter() {
        WordWheel x = rounded(3, 9, 0);
        x.wheel(3, 3);
        x.round(0);
        return x;
    }

    private static void place() {
        Edges.says(25, "The place at which a WORD stands.");
        WordWheel x = rounded(2, 14, 0);
        due("the first WORD", x.place(0), 0);
        due("the last WORD", x.place(16383), 16370);
        due("1 and thirteen 0, over the end", x.place(8192), 16383);
        due("thirteen 1 and a 0, over the end", x.place(16382), 16371);
        x.round(1);
        due("the first WORD", x.place(0), 0);
        due("the last WORD", x.place(16383), 14);
        due("1 and thirteen 0, over the end", x.place(8192), 16383);
        x = rounded(5, 1, 1);
        due("one LETTER", x.place(1), 4);
        due("one LETTER", x.place(4), 1);
    }

    private static void placeRefuses() {
        Edges.says(25, "BAD");
        due("place(0) is taken", States.busy().place(0), 0);
        due("place(26) is taken", States.busy().place(26), 3);
        for (int word : new int[] {-1, 27, 28, LOW, HIGH}) {
            Edges.refused("place(" + word + ")", States::busy, x -> x.place(word), BAD);
        }
        Edges.refused("place(27) behind a longer one", EdgesOfRounds::shorter, x -> x.place(27), BAD);
    }

    private static void placeWithoutRound() {
        Edges.says(25, "NOT: there is no ROUND.");
        Edges.refused("at first", States::fresh, x -> x.place(0), NOT);
        Edges.refused("behind wheel()", States::noRound, x -> x.place(26), NOT);
        Edges.refused("BAD ahead of it", States::noRound, x -> x.place(27), BAD);
        Edges.refused("BAD ahead of it", States::noRound, x -> x.place(-1), BAD);
    }

    private static void way() {
        Edges.says(26, "Two places of THE ROUND: how many LETTERS on from one the other is.");
        WordWheel x = rounded(3, 9, 0);
        due("from one to itself", x.way(5, 5), 0);
        due("the last to itself", x.way(19682, 19682), 0);
        due("one on", x.way(0, 1), 1);
        due("the longest", x.way(0, 19682), 19682);
        due("the longest, round", x.way(1, 0), 19682);
        due("one on, round", x.way(19682, 0), 1);
        due("on, round", x.way(19680, 3), 6);
    }

    private static void wayRefuses() {
        Edges.says(26, "BAD: also without one.");
        due("way(26, 26) is taken", States.busy().way(26, 26), 0);
        int[][] bad = {{-1, 0}, {0, -1}, {27, 0}, {0, 27}, {27, 27}, {-1, -1}, {LOW, 0}, {0, LOW}, {HIGH, 0}, {0, HIGH}, {LOW, HIGH}};
        for (int[] b : bad) {
            Edges.refused("way(" + b[0] + ", " + b[1] + ")", States::busy, x -> x.way(b[0], b[1]), BAD);
        }
        Edges.refused("way(0, 0) without one", States::noRound, x -> x.way(0, 0), BAD);
        Edges.refused("way(0, 26) without one", States::noRound, x -> x.way(0, 26), BAD);
        Edges.refused("way(0, 27) behind a longer one", EdgesOfRounds::shorter, x -> x.way(0, 27), BAD);
    }
}
