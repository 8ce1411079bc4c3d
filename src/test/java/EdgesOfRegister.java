/** The edges of promises 13 to 22: the register, its exchanges and its cycles. */
final class EdgesOfRegister {
    private static final int BAD = Edges.BAD, NOT = Edges.NOT, FULL = Edges.FULL;
    private static final int LOW = Edges.LOW, HIGH = Edges.HIGH;

    private EdgesOfRegister() {
    }

    static void run() {
        factor();
        factorTakesExchangesAway();
        factorRefuses();
        sum();
        sumTakesExchangesAway();
        sumRefuses();
        go();
        goRefuses();
        right();
        exchange();
        exchangeRefuses();
        exchangeNotRight();
        exchangeFull();
        back();
        backWithoutAny();
        cycles();
        cyclesNotRight();
        cycleOf();
        cycleOfRefuses();
        cycle();
        cycleRefuses();
        join();
        joinAsCyclesAreThen();
        joinTellsHowMany();
        joinNotRight();
        joinFull();
    }

    private static void due(String call, long got, long want) {
        Edges.due(call, got, want);
    }

    private static WordWheel wheel(int k, int n) {
        WordWheel x = new WordWheel();
        x.wheel(k, n);
        return x;
    }

    private static void factor() {
        Edges.says(13, "FACTOR i becomes v: what it was.");
        WordWheel x = wheel(2, 14);
        due("the first, at first", x.factor(0, 1), 1);
        due("the last, at first", x.factor(13, 1), 0);
        due("the last, then", x.factor(13, 0), 1);
        x.wheel(5, 2);
        due("to the greatest", x.factor(1, 4), 0);
        due("to the least", x.factor(1, 0), 4);
        due("to what it is", x.factor(1, 0), 0);
        due("the first to 0", x.factor(0, 0), 1);
        due("the LETTER that comes then", x.go(24), 20);
    }

    private static void factorTakesExchangesAway() {
        Edges.says(13, "No EXCHANGES then.");
        WordWheel x = States.busy();
        due("to what it is", x.factor(2, 0), 0);
        due("no EXCHANGES", x.count(3), 0);
        due("none to take back", x.back(), NOT);
        due("WORD 0 leads as by the FEEDBACK alone", x.go(0), 1);
        x = States.full();
        x.factor(5, 0);
        due("none of 400", x.count(3), 0);
        due("all the CYCLES again", x.cycles(), 400);
        due("THE ROUND stays", busyRoundBehindFactor(), 1);
    }

    private static int busyRoundBehindFactor() {
        WordWheel x = States.busy();
        x.factor(1, 1);
        return x.count(4);
    }

    private static void factorRefuses() {
        Edges.says(13, "BAD.");
        due("factor(2, 2) is taken", States.busy().factor(2, 2), 0);
        int[][] bad = {{-1, 0}, {3, 0}, {0, -1}, {0, 3}, {2, 3}, {3, 3}, {LOW, 0}, {HIGH, 0}, {0, LOW}, {0, HIGH}, {13, 0}, {14, 0}};
        for (int[] b : bad) {
            Edges.refused("factor(" + b[0] + ", " + b[1] + ")", States::busy, x -> x.factor(b[0], b[1]), BAD);
        }
        Edges.refused("factor(6, 0) of N 6", States::full, x -> x.factor(6, 0), BAD);
    }

    private static void sum() {
        Edges.says(14, "SUM becomes v: what it was.");
        WordWheel x = wheel(5, 2);
        due("at first", x.sum(4), 0);
        due("the greatest, then", x.sum(0), 4);
        due("to what it is", x.sum(0), 0);
        x.sum(4);
        due("the LETTER that comes then", x.go(0), 4);
        due("round K", x.go(5), 0);
    }

    private static void sumTakesExchangesAway() {
        Edges.says(14, "No EXCHANGES then.");
        WordWheel x = States.busy();
        due("to what it is", x.sum(1), 1);
        due("no EXCHANGES", x.count(3), 0);
        due("none to take back", x.back(), NOT);
        due("WORD 0 leads as by the FEEDBACK alone", x.go(0), 1);
        due("THE ROUND stays", x.count(4), 1);
        x = States.full();
        x.sum(0);
        due("none of 400", x.count(3), 0);
        due("all the CYCLES again", x.cycles(), 400);
    }

    private static void sumRefuses() {
        Edges.says(14, "BAD.");
        due("sum(2) is taken", States.busy().sum(2), 1);
        for (int v : new int[] {-1, 3, LOW, HIGH}) {
            Edges.refused("sum(" + v + ")", States::busy, x -> x.sum(v), BAD);
        }
        Edges.refused("sum(2) of K 2", States::fresh, x -> x.sum(2), BAD);
    }

    private static void go() {
        Edges.says(15, "Where a WORD leads.");
        WordWheel x = wheel(2, 14);
        due("the first WORD", x.go(0), 0);
        due("the last WORD", x.go(16383), 16383);
        due("the first LETTER goes round", x.go(8192), 1);
        x.exchange(0, 8192);
        due("behind an EXCHANGE", x.go(0), 1);
        due("behind an EXCHANGE", x.go(8192), 0);
        x.wheel(5, 1);
        due("one LETTER", x.go(4), 4);
        x.factor(0, 0);
        due("all to one", x.go(4), 0);
    }

    private static void goRefuses() {
        Edges.says(15, "BAD.");
        EdgesOfWords.dueWordsOnly("go", (x, word) -> x.go(word));
        Edges.refused("go(27), not RIGHT", States::notRight, x -> x.go(27), BAD);
    }

    private static void right() {
        Edges.says(16, "Whether the REGISTER is RIGHT: 1, 0.");
        boolean[][] right = {
            {}, {}, {false, true}, {false, true, true}, {false, true, false, true}, {false, true, true, true, true}
        };
        for (int k = 2; k <= 5; k++) {
            for (int n : new int[] {1, 2, 6}) {
                WordWheel x = wheel(k, n);
                due("at first", x.right(), 1);
                for (int v = 0; v < k; v++) {
                    x.factor(0, v);
                    due("K " + k + ", N " + n + ", F 0 is " + v, x.right(), right[k][v] ? 1 : 0);
                }
            }
        }
        due("with EXCHANGES", States.busy().right(), 1);
        due("with 400 of them", States.full().right(), 1);
        WordWheel x = States.fourLetters();
        x.factor(1, 2);
        due("other FACTORS change nothing in it", x.right(), 1);
    }

    private static void exchange() {
        Edges.says(17, "Two WORDS exchange where they lead: how many CYCLES there are then.");
        WordWheel x = new WordWheel();
        due("two CYCLES become one", x.exchange(0, 4), 3);
        due("one becomes two", x.exchange(0, 4), 4);
        due("in either order", x.exchange(4, 0), 3);
        due("the last pair", x.exchange(3, 7), 2);
        due("down to one CYCLE", x.exchange(1, 5), 1);
        due("cycles()", x.cycles(), 1);
        due("up to two", x.exchange(2, 6), 2);
        due("cycles()", x.cycles(), 2);
        x.wheel(3, 1);
        due("of one LETTER", x.exchange(0, 2), 2);
        due("of one LETTER", x.exchange(1, 2), 1);
    }

    private static void exchangeRefuses() {
        Edges.says(17, "BAD: also if they do not differ in the first LETTER alone");
        due("0 0 0 and 1 0 0 are taken", States.busy().exchange(0, 9) > 0 ? 1 : 0, 1);
        due("0 2 2 and 2 2 2 are taken", States.busy().exchange(8, 26) > 0 ? 1 : 0, 1);
        int[][] bad = {
            {0, 0}, {26, 26}, {0, 1}, {0, 3}, {0, 10}, {0, 12}, {26, 25}, {26, 9}, {-1, 8}, {8, -1}, {-9, 0}, {0, -9}, {26, 35},
            {18, 27}, {27, 18}, {27, 36}, {LOW, 0}, {0, LOW}, {HIGH, 0}, {0, HIGH}, {HIGH, HIGH}
        };
        for (int[] b : bad) {
            Edges.refused("exchange(" + b[0] + ", " + b[1] + ")", States::busy, x -> x.exchange(b[0], b[1]), BAD);
        }
    }

    private static void exchangeNotRight() {
        Edges.says(17, "NOT: it is not RIGHT");
        Edges.refused("exchange(0, 9)", States::notRight, x -> x.exchange(0, 9), NOT);
        Edges.refused("BAD ahead of it: 0 and 1", States::notRight, x -> x.exchange(0, 1), BAD);
        Edges.refused("BAD ahead of it: no WORD", States::notRight, x -> x.exchange(18, 27), BAD);
        WordWheel x = States.fourLetters();
        x.factor(0, 2);
        due("K 4, F 0 is 2", x.exchange(0, 4), NOT);
        x.factor(0, 3);
        due("K 4, F 0 is 3", x.exchange(0, 4) > 0 ? 1 : 0, 1);
    }

    private static void exchangeFull() {
        Edges.says(17, "FULL.");
        WordWheel x = States.almostFull();
        due("the 400th", x.exchange(1, 1025), 2);
        due("another one", x.exchange(2, 1026), FULL);
        due("400", x.count(3), 400);
        Edges.refused("the 401st", States::full, y -> y.exchange(2, 1026), FULL);
        Edges.refused("the 401st, the other way", States::full, y -> y.exchange(1024, 0), FULL);
        Edges.refused("of one CYCLE", States::fullOfOneCycle, y -> y.exchange(0, 625), FULL);
        Edges.refused("BAD ahead of it: 0 and 1", States::full, y -> y.exchange(0, 1), BAD);
        Edges.refused("BAD ahead of it: no WORD", States::full, y -> y.exchange(3072, 4096), BAD);
        due("back", x.back(), 399);
        due("room again", x.exchange(2, 1026), 2);
        due("full again", x.exchange(2, 1026), FULL);
    }

    private static void back() {
        Edges.says(18, "The latest EXCHANGE is taken back: how many are left.");
        WordWheel x = new WordWheel();
        long none = x.digest();
        x.exchange(0, 4);
        long one = x.digest();
        x.exchange(4, 0);
        due("of two alike one is left", x.back(), 1);
        due("as it was", x.digest(), one);
        due("CYCLES", x.cycles(), 3);
        due("none is left", x.back(), 0);
        due("as it was", x.digest(), none);
        due("CYCLES", x.cycles(), 4);
        x = States.full();
        due("of 400", x.back(), 399);
        due("one CYCLE again", x.cycles(), 1);
        for (int left = 398; left >= 0; left--) {
            due("left", x.back(), left);
        }
        due("all the CYCLES again", x.cycles(), 400);
        due("the last one that join() made is taken back first", lastOfJoinLeads(), 7);
    }

    /** join() of K 2, N 3 makes 0 4, 1 5, 3 7; the last one taken back, 7 leads to itself again. */
    private static int lastOfJoinLeads() {
        WordWheel x = new WordWheel();
        x.join();
        x.back();
        return x.go(7);
    }

    private static void backWithoutAny() {
        Edges.says(18, "NOT: there is none.");
        Edges.refused("at first", States::fresh, x -> x.back(), NOT);
        Edges.refused("not RIGHT", States::notRight, x -> x.back(), NOT);
        Edges.refused("behind wheel()", States::noRound, x -> x.back(), NOT);
        WordWheel x = States.busy();
        due("two left", x.back(), 2);
        due("one left", x.back(), 1);
        due("none left", x.back(), 0);
        due("none", x.back(), NOT);
        due("still none", x.count(3), 0);
    }

    private static void cycles() {
        Edges.says(19, "How many CYCLES.");
        due("at first", new WordWheel().cycles(), 4);
        WordWheel x = wheel(5, 1);
        due("each WORD alone, the most", x.cycles(), 5);
        x.sum(1);
        due("one, the least", x.cycles(), 1);
        x.wheel(4, 7);
        due("as many as RINGS", x.cycles(), 2344);
        x.wheel(3, 9);
        due("behind wheel()", x.cycles(), 2195);
        due("behind a join() to the most", States.fullOfOneCycle().cycles(), 1);
    }

    private static void cyclesNotRight() {
        Edges.says(19, "NOT: it is not RIGHT.");
        Edges.refused("cycles()", States::notRight, x -> x.cycles(), NOT);
        WordWheel x = States.fourLetters();
        x.factor(0, 2);
        due("K 4, F 0 is 2", x.cycles(), NOT);
        x.factor(0, 1);
        due("RIGHT again", x.cycles(), 10);
    }

    private static void cycleOf() {
        Edges.says(20, "The number of the CYCLE of a WORD.");
        WordWheel x = wheel(2, 14);
        due("the first WORD", x.cycleOf(0), 0);
        due("the last WORD", x.cycleOf(16383), 1181);
        x.wheel(2, 3);
        due("the last WORD", x.cycleOf(7), 3);
        x.exchange(3, 7);
        due("behind an EXCHANGE", x.cycleOf(7), 2);
        x.back();
        due("taken back", x.cycleOf(7), 3);
        x.join();
        due("behind join()", x.cycleOf(7), 0);
    }

    private static void cycleOfRefuses() {
        Edges.says(20, "BAD; NOT (ahead).");
        EdgesOfWords.dueWordsOnly("cycleOf", (x, word) -> x.cycleOf(word));
        Edges.refused("not RIGHT", States::notRight, x -> x.cycleOf(0), NOT);
        Edges.refused("NOT ahead of BAD", States::notRight, x -> x.cycleOf(27), NOT);
        Edges.refused("NOT ahead of BAD", States::notRight, x -> x.cycleOf(-1), NOT);
    }

    private static void cycle() {
        Edges.says(21, "Of CYCLE c: 0 its least WORD, 1 how many WORDS it has.");
        WordWheel x = wheel(2, 4);
        int[] least = {0, 1, 3, 5, 7, 15};
        int[] words = {1, 4, 4, 2, 4, 1};
        for (int c = 0; c < 6; c++) {
            due("least of " + c, x.cycle(c, 0), least[c]);
            due("words of " + c, x.cycle(c, 1), words[c]);
        }
        x.exchange(0, 8);
        due("behind an EXCHANGE the second becomes the first", x.cycle(0, 1), 5);
        due("and the third the second", x.cycle(1, 0), 3);
        x.back();
        due("taken back", x.cycle(1, 0), 1);
        x.exchange(0, 8);
        due("as many WORDS as the third had", x.cycle(2, 1), 2);
        x.back();
        due("taken back", x.cycle(2, 1), 4);
        x.join();
        due("the only one", x.cycle(0, 0), 0);
        due("it has ALL WORDS", x.cycle(0, 1), 16);
        due("no other one", x.cycle(1, 0), BAD);
        x.wheel(2, 14);
        due("the last of many", x.cycle(1181, 0), 16383);
        due("the last of many", x.cycle(1181, 1), 1);
        due("one more", x.cycle(1182, 1), BAD);
    }

    private static void cycleRefuses() {
        Edges.says(21, "BAD; NOT (ahead).");
        int last = States.busy().cycles() - 1;
        due("the last CYCLE is taken", States.busy().cycle(last, 1) > 0 ? 1 : 0, 1);
        int[][] bad = {{-1, 0}, {last + 1, 0}, {last + 1, 1}, {0, -1}, {0, 2}, {last, 2}, {LOW, 0}, {HIGH, 0}, {0, LOW}, {0, HIGH}, {26, 0}};
        for (int[] b : bad) {
            Edges.refused("cycle(" + b[0] + ", " + b[1] + ")", States::busy, x -> x.cycle(b[0], b[1]), BAD);
        }
        Edges.refused("not RIGHT", States::notRight, x -> x.cycle(0, 0), NOT);
        Edges.refused("NOT ahead of BAD", States::notRight, x -> x.cycle(-1, 0), NOT);
        Edges.refused("NOT ahead of BAD", States::notRight, x -> x.cycle(0, 2), NOT);
        Edges.refused("NOT ahead of BAD", States::notRight, x -> x.cycle(HIGH, HIGH), NOT);
    }

    private static void join() {
        Edges.says(22, "For each WORD w, from 0 on, whose first LETTER is not the last one, K - 1: it and the WORD with the next first"
                + " LETTER make an EXCHANGE");
        WordWheel x = wheel(3, 1);
        due("0 with 1, 1 with 2", x.join(), 2);
        due("0 leads as 1 did", x.go(0), 1);
        due("1 leads as 2 did", x.go(1), 2);
        due("2, of the last LETTER, as 0 did", x.go(2), 0);
        x.back();
        due("the latest was 1 with 2", x.go(2), 2);
        due("the other was 0 with 1", x.go(1), 0);
        x.wheel(2, 3);
        x.join();
        int[] leads = {1, 3, 4, 7, 0, 2, 5, 6};
        for (int w = 0; w < 8; w++) {
            due("go(" + w + ")", x.go(w), leads[w]);
        }
    }

    private static void joinAsCyclesAreThen() {
        Edges.says(22, "if they are of two CYCLES (as these are then)");
        WordWheel x = new WordWheel();
        x.join();
        // 2 and 6 were of two CYCLES at first; by 0 4 and 1 5 they are of one
        due("2 leads on", x.go(2), 4);
        due("6 leads on", x.go(6), 5);
        // 2 and 6 split it into 0 1 3 7 6 4 and 2 5
        due("split again", x.exchange(2, 6), 2);
        due("one EXCHANGE", x.join(), 1);
        due("0 and 4 were of one CYCLE", x.go(0), 1);
        due("1 and 5 were of two", x.go(1), 2);
        due("1 and 5 were of two", x.go(5), 3);
        due("2 and 6 are of one by then", x.go(2), 5);
        // 0 and 11 others, 1 and 11 others, 5 15 19: first 3 and 12 are of two, and 3 is not of the first
        x.wheel(3, 3);
        x.factor(1, 2);
        x.factor(2, 1);
        x.sum(2);
        due("three CYCLES", x.cycles(), 3);
        due("two EXCHANGES", x.join(), 2);
        due("3 leads as 12 did", x.go(3), 11);
        due("12 leads as 3 did", x.go(12), 10);
        due("4 and 13 are of one by then", x.go(4), 14);
        due("5 leads as 14 did", x.go(5), 16);
        due("14 leads as 5 did", x.go(14), 15);
        due("one CYCLE", x.cycles(), 1);
    }

    private static void joinTellsHowMany() {
        Edges.says(22, "how many EXCHANGES were made.");
        WordWheel x = wheel(2, 4);
        due("five", x.join(), 5);
        due("count(3)", x.count(3), 5);
        due("none, as there is one CYCLE", x.join(), 0);
        due("count(3)", x.count(3), 5);
        x.back();
        due("that one again", x.join(), 1);
        x.wheel(5, 1);
        x.sum(3);
        due("none at all", x.join(), 0);
        x = States.manyCycles();
        due("394", x.join(), 394);
        x = States.fullOfOneCycle();
        due("400 are there", x.count(3), 400);
        due("none, though there is no room", x.join(), 0);
    }

    private static void joinNotRight() {
        Edges.says(22, "NOT: not RIGHT");
        Edges.refused("join()", States::notRight, x -> x.join(), NOT);
        WordWheel x = wheel(2, 14);
        x.factor(0, 0);
        due("with many WORDS", x.join(), NOT);
        x.factor(0, 1);
        due("RIGHT, and too many CYCLES", x.join(), FULL);
    }

    private static void joinFull() {
        Edges.says(22, "FULL: there would be more than 400 (none is made).");
        WordWheel x = States.manyCycles();
        States.toAndFro(x, 6);
        due("6 and 394 are 400", x.join(), 394);
        due("count(3)", x.count(3), 400);
        Edges.refused("8 and 394", EdgesOfRegister::eightToAndFro, y -> y.join(), FULL);
        x = States.manyCycles();
        States.toAndFro(x, 7);
        due("7, one of which has joined two, and 393", x.join(), 393);
        Edges.refused("401 of 402 CYCLES", EdgesOfRegister::cycles402, y -> y.join(), FULL);
        Edges.refused("400 and 1", States::full, y -> y.join(), FULL);
        Edges.refused("1181 of 1182 CYCLES", () -> wheel(2, 14), y -> y.join(), FULL);
        due("399 of 400 CYCLES", States.almostFull().count(3), 399);
    }

    private static WordWheel eightToAndFro() {
        WordWheel x = States.manyCycles();
        States.toAndFro(x, 8);
        return x;
    }

    private static WordWheel cycles402() {
        WordWheel x = wheel(3, 9);
        x.factor(0, 2);
        x.factor(1, 2);
        x.factor(4, 1);
        x.factor(7, 2);
        if (x.cycles() != 402) {
            throw new IllegalStateException("not 402 CYCLES");
        }
        return x;
    }
}
