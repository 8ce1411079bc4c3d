/** Objects in states from which refusals are looked at. */
final class States {
    private States() {
    }

    static WordWheel fresh() {
        return new WordWheel();
    }

    /**
     * K 3, N 3, a FEEDBACK, three EXCHANGES, the GREEDY ROUND; TAPE 0 of bytes without BLANKS, TAPE 1 of
     * chars with one, TAPE 2 of shorts without items, TAPE 3 LOST; something found and told; the latest
     * FINDING is SIZE.
     */
    static WordWheel busy() {
        WordWheel x = new WordWheel();
        x.wheel(3, 3);
        x.factor(0, 2);
        x.factor(1, 2);
        x.sum(1);
        x.exchange(0, 9);
        x.exchange(4, 13);
        x.exchange(13, 22);
        x.round(1);
        write(x, 0, 0, "0100210");
        x.tape(1, 1, 8);
        x.print(1, 0, 5, 8);
        x.put(1, 1, 3, 65535);
        x.tape(2, 2, 0);
        x.find(1, 0, 8, 0);
        x.parts(0);
        x.recurrence(0);
        x.tape(0, 0, -1);
        return x;
    }

    /** As busy, but the latest FINDING is NULL. */
    static WordWheel busyNull() {
        WordWheel x = busy();
        x.lose(3);
        return x;
    }

    /** As busy, but the REGISTER is not RIGHT, and so without EXCHANGES. */
    static WordWheel notRight() {
        WordWheel x = busy();
        x.factor(0, 0);
        return x;
    }

    /** As busy, but there is no ROUND, and nothing found. */
    static WordWheel noRound() {
        WordWheel x = busy();
        x.wheel(3, 3);
        return x;
    }

    /** As noRound, with LETTERS 0 to 3. */
    static WordWheel fourLetters() {
        WordWheel x = busy();
        x.wheel(4, 2);
        return x;
    }

    /** 399 EXCHANGES that make one CYCLE of 400. */
    static WordWheel almostFull() {
        WordWheel x = new WordWheel();
        x.wheel(4, 6);
        x.factor(0, 3);
        x.factor(3, 2);
        x.join();
        return x;
    }

    /** 400 EXCHANGES and two CYCLES. */
    static WordWheel full() {
        WordWheel x = almostFull();
        x.exchange(0, 1024);
        return x;
    }

    /** 395 CYCLES, so that 394 EXCHANGES make one of them. */
    static WordWheel manyCycles() {
        WordWheel x = new WordWheel();
        x.wheel(5, 5);
        x.factor(1, 4);
        x.factor(4, 1);
        return x;
    }

    /** Makes EXCHANGES of which the second takes back what the first did, and so on. */
    static void toAndFro(WordWheel x, int times) {
        int step = x.count(2) / x.count(0);
        for (int i = 0; i < times; i++) {
            x.exchange(0, step);
        }
    }

    /** 6 EXCHANGES that leave the CYCLES as they are, and 394 that make one of them. */
    static WordWheel fullOfOneCycle() {
        WordWheel x = manyCycles();
        toAndFro(x, 6);
        x.join();
        return x;
    }

    /** A TAPE becomes a row of a FORM with these figures. */
    static void write(WordWheel x, int t, int form, String figures) {
        x.tape(t, form, figures.length());
        for (int i = 0; i < figures.length(); i++) {
            x.put(t, form, i, figures.charAt(i) - '0');
        }
    }

    /** A new object with LETTERS 0 to k - 1 and these figures as bytes on TAPE 0. */
    static WordWheel written(int k, int n, String figures) {
        WordWheel x = new WordWheel();
        x.wheel(k, n);
        write(x, 0, 0, figures);
        return x;
    }
}
