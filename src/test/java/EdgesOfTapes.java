/** The edges of promises 27 to 34: tapes, what is put on them, and where it stands in the round. */
final class EdgesOfTapes {
    private static final int NONE = Edges.NONE, BAD = Edges.BAD, NOT = Edges.NOT;
    private static final int NULL = Edges.NULL, INDEX = Edges.INDEX, CAST = Edges.CAST, STORE = Edges.STORE;
    private static final int SIZE = Edges.SIZE, LOW = Edges.LOW, HIGH = Edges.HIGH;

    private EdgesOfTapes() {
    }

    static void run() {
        tape();
        tapeRefuses();
        tapeSize();
        lose();
        loseRefuses();
        put();
        putRefuses();
        putNull();
        putCast();
        putIndex();
        get();
        getRefuses();
        getFindings();
        copy();
        copyAsTheyWere();
        copyRefuses();
        copyNull();
        copyStore();
        copyIndex();
        print();
        printRefuses();
        printWithoutRound();
        printNull();
        printIndex();
        find();
        findSlips();
        findRefuses();
        findWithoutRound();
        findNull();
        findIndex();
        found();
        foundAbove0();
        foundNone();
    }

    private static void due(String call, long got, long want) {
        Edges.due(call, got, want);
    }

    private static void dueItems(WordWheel x, int t, int form, int... items) {
        for (int i = 0; i < items.length; i++) {
            due("item " + i, x.get(t, form, i), items[i]);
        }
        due("none behind", x.get(t, form, items.length), LOW);
    }

    private static void tape() {
        Edges.says(27, "A TAPE is a new row of a FORM with n items: n.");
        WordWheel x = States.busy();
        due("200 items", x.tape(3, 2, 200), 200);
        due("the last item", x.get(3, 2, 199), 0);
        due("none behind", x.get(3, 2, 200), LOW);
        due("it had 200", x.lose(3), 200);
        due("0 items", x.tape(3, 2, 0), 0);
        due("no item 0", x.get(3, 2, 0), LOW);
        due("1 item", x.tape(3, 1, 1), 1);
        due("as of its new FORM", x.get(3, 1, 0), 0);
        due("longer than it was", x.tape(0, 0, 9), 9);
        dueItems(x, 0, 0, 0, 0, 0, 0, 0, 0, 0, 0, 0);
        due("as long as it was", x.tape(1, 1, 8), 8);
        dueItems(x, 1, 1, 0, 0, 0, 0, 0, 0, 0, 0);
        x.put(1, 1, 7, 1);
        x.put(1, 1, 1, 1);
        due("shorter than it was", x.tape(1, 1, 2), 2);
        dueItems(x, 1, 1, 0, 0);
        due("longer again", x.tape(1, 1, 8), 8);
        dueItems(x, 1, 1, 0, 0, 0, 0, 0, 0, 0, 0);
        for (int t = 0; t < 4; t++) {
            due("each TAPE has its own row", x.tape(t, 0, 3), 3);
            x.put(t, 0, 1, t + 1);
        }
        for (int t = 0; t < 4; t++) {
            dueItems(x, t, 0, 0, t + 1, 0);
        }
    }

    private static void tapeRefuses() {
        Edges.says(27, "BAD: TAPE, FORM, above 200");
        int[][] taken = {{0, 0, 200}, {3, 2, 200}, {3, 0, 0}, {0, 2, 0}};
        for (int[] a : taken) {
            due("tape(" + a[0] + ", " + a[1] + ", " + a[2] + ")", States.busy().tape(a[0], a[1], a[2]), a[2]);
        }
        int[][] bad = {
            {-1, 0, 1}, {4, 0, 1}, {0, -1, 1}, {0, 3, 1}, {0, 0, 201}, {3, 2, 201}, {LOW, 0, 1}, {HIGH, 0, 1}, {0, LOW, 1},
            {0, HIGH, 1}, {0, 0, HIGH}, {4, 3, 201}
        };
        for (int[] b : bad) {
            Edges.refused("tape(" + b[0] + ", " + b[1] + ", " + b[2] + ")", States::busy, x -> x.tape(b[0], b[1], b[2]), BAD);
        }
    }

    private static void tapeSize() {
        Edges.says(27, "SIZE.");
        Edges.refused("-1 items", States::busyNull, x -> x.tape(0, 0, -1), SIZE);
        Edges.refused("-1 items of a LOST one", States::busyNull, x -> x.tape(3, 0, -1), SIZE);
        Edges.refused("the least int", States::busyNull, x -> x.tape(1, 2, LOW), SIZE);
        Edges.refused("BAD ahead of it: the TAPE", States::busyNull, x -> x.tape(4, 0, -1), BAD);
        Edges.refused("BAD ahead of it: the FORM", States::busyNull, x -> x.tape(0, 3, -1), BAD);
        due("0 items are taken", States.busyNull().tape(0, 0, 0), 0);
    }

    private static void lose() {
        Edges.says(28, "It is LOST: how many items it had.");
        WordWheel x = States.busy();
        due("7", x.lose(0), 7);
        due("it is LOST", x.parts(0), NULL);
        due("8", x.lose(1), 8);
        due("none", x.lose(2), 0);
        x.tape(3, 0, 200);
        due("200", x.lose(3), 200);
        x.tape(3, 0, 4);
        due("a new one is there", x.get(3, 0, 3), 0);
        due("4", x.lose(3), 4);
    }

    private static void loseRefuses() {
        Edges.says(28, "BAD; NULL.");
        for (int t : new int[] {-1, 4, LOW, HIGH}) {
            Edges.refused("lose(" + t + ")", States::busy, x -> x.lose(t), BAD);
        }
        Edges.refused("lose(3)", States::busy, x -> x.lose(3), NULL);
        WordWheel x = States.busy();
        x.lose(0);
        due("lost twice", x.lose(0), NULL);
    }

    private static void put() {
        Edges.says(29, "Item i, treated as of a FORM, becomes v (the lowest bits that it has): 1.");
        // what is put, and what it is as a byte, a char, a short
        int[][] rows = {
            {0, 0, 0, 0}, {127, 127, 127, 127}, {128, -128, 128, 128}, {255, -1, 255, 255}, {256, 0, 256, 256},
            {32767, -1, 32767, 32767}, {32768, 0, 32768, -32768}, {65535, -1, 65535, -1}, {65536, 0, 0, 0}, {65537, 1, 1, 1},
            {-1, -1, 65535, -1}, {-128, -128, 65408, -128}, {-129, 127, 65407, -129}, {-32768, 0, 32768, -32768},
            {-32769, -1, 32767, 32767}, {-65536, 0, 0, 0}, {HIGH, -1, 65535, -1}, {LOW, 0, 0, 0}
        };
        for (int form = 0; form < 3; form++) {
            WordWheel x = new WordWheel();
            x.tape(form, form, 3);
            for (int[] row : rows) {
                due("put " + row[0], x.put(form, form, 1, row[0]), 1);
                dueItems(x, form, form, 0, row[1 + form], 0);
            }
        }
        WordWheel x = States.busy();
        due("the first", x.put(0, 0, 0, 9), 1);
        due("the last", x.put(0, 0, 6, 8), 1);
        dueItems(x, 0, 0, 9, 1, 0, 0, 2, 1, 8);
        x.tape(3, 1, 200);
        due("the last of 200", x.put(3, 1, 199, 3), 1);
        due("it is", x.get(3, 1, 199), 3);
    }

    private static void putRefuses() {
        Edges.says(29, "BAD");
        int[][] bad = {{-1, 0}, {4, 0}, {0, -1}, {0, 3}, {LOW, 0}, {HIGH, 0}, {0, LOW}, {0, HIGH}};
        for (int[] b : bad) {
            Edges.refused("put(" + b[0] + ", " + b[1] + ", 0, 1)", States::busy, x -> x.put(b[0], b[1], 0, 1), BAD);
        }
        Edges.refused("ahead of NULL", States::busy, x -> x.put(3, 3, 0, 1), BAD);
        Edges.refused("ahead of INDEX", States::busy, x -> x.put(0, 3, 7, 1), BAD);
        Edges.refused("no TAPE, ahead of INDEX", States::busy, x -> x.put(4, 0, -1, 1), BAD);
    }

    private static void putNull() {
        Edges.says(29, "NULL");
        Edges.refused("put(3, 0, 0, 1)", States::busy, x -> x.put(3, 0, 0, 1), NULL);
        Edges.refused("ahead of INDEX", States::busy, x -> x.put(3, 2, -1, 1), NULL);
        Edges.refused("ahead of INDEX", States::busy, x -> x.put(3, 1, 200, 1), NULL);
        WordWheel x = States.busy();
        x.lose(0);
        due("of any FORM", x.put(0, 1, 0, 1), NULL);
        due("of the FORM that it had", x.put(0, 0, 0, 1), NULL);
    }

    private static void putCast() {
        Edges.says(29, "CAST");
        Edges.refused("bytes as chars", States::busy, x -> x.put(0, 1, 0, 1), CAST);
        Edges.refused("bytes as shorts", States::busy, x -> x.put(0, 2, 0, 1), CAST);
        Edges.refused("chars as bytes", States::busy, x -> x.put(1, 0, 0, 1), CAST);
        Edges.refused("chars as shorts", States::busy, x -> x.put(1, 2, 0, 1), CAST);
        Edges.refused("shorts as bytes, ahead of INDEX", States::busy, x -> x.put(2, 0, 0, 1), CAST);
        Edges.refused("ahead of INDEX", States::busy, x -> x.put(0, 1, 7, 1), CAST);
        Edges.refused("ahead of INDEX", States::busy, x -> x.put(0, 1, -1, 1), CAST);
    }

    private static void putIndex() {
        Edges.says(29, "INDEX.");
        for (int i : new int[] {-1, 7, 8, 199, 200, LOW, HIGH}) {
            Edges.refused("put(0, 0, " + i + ", 1)", States::busy, x -> x.put(0, 0, i, 1), INDEX);
        }
        Edges.refused("of no items", States::busy, x -> x.put(2, 2, 0, 1), INDEX);
        Edges.refused("of no items", States::busy, x -> x.put(2, 2, -1, 1), INDEX);
        WordWheel x = new WordWheel();
        x.tape(0, 0, 200);
        due("199 of 200", x.put(0, 0, 199, 1), 1);
        due("200 of 200", x.put(0, 0, 200, 1), INDEX);
        // a shorter row has not the items of the longer one
        x.tape(0, 0, 3);
        due("3 of 3", x.put(0, 0, 3, 1), INDEX);
        due("2 of 3", x.put(0, 0, 2, 1), 1);
    }

    private static void get() {
        Edges.says(30, "Item i of it.");
        WordWheel x = States.busy();
        due("the first", x.get(0, 0, 0), 0);
        due("the last", x.get(0, 0, 6), 0);
        due("the last but one", x.get(0, 0, 5), 1);
        due("a BLANK", x.get(1, 1, 3), 65535);
        x.tape(3, 2, 200);
        x.put(3, 2, 199, -32768);
        due("the last of 200", x.get(3, 2, 199), -32768);
        due("no FINDING", x.count(5), 5);
    }

    private static void getRefuses() {
        Edges.says(30, "BAD: the least int");
        int[][] bad = {{-1, 0, 0}, {4, 0, 0}, {0, -1, 0}, {0, 3, 0}, {LOW, 0, 0}, {HIGH, 0, 0}, {0, LOW, 0}, {0, HIGH, 0}};
        for (int[] b : bad) {
            Edges.refusedGet("get(" + b[0] + ", " + b[1] + ", 0)", States::busy, x -> x.get(b[0], b[1], b[2]), 0);
        }
        Edges.refusedGet("ahead of NULL", States::busy, x -> x.get(3, 3, 0), 0);
        Edges.refusedGet("ahead of INDEX", States::busy, x -> x.get(0, 3, 7), 0);
        Edges.refusedGet("no TAPE, ahead of INDEX", States::busy, x -> x.get(4, 0, -1), 0);
        Edges.refusedGet("no FINDING before any", States::fresh, x -> x.get(4, 0, 0), 0);
    }

    private static void getFindings() {
        Edges.says(30, "so are NULL, CAST, INDEX (count() 5 tells).");
        Edges.refusedGet("NULL", States::busy, x -> x.get(3, 0, 0), 1);
        Edges.refusedGet("NULL ahead of INDEX", States::busy, x -> x.get(3, 2, -1), 1);
        Edges.refusedGet("CAST", States::busy, x -> x.get(0, 1, 0), 3);
        Edges.refusedGet("CAST ahead of INDEX", States::busy, x -> x.get(0, 2, 7), 3);
        Edges.refusedGet("CAST ahead of INDEX, no items", States::busy, x -> x.get(2, 0, 0), 3);
        for (int i : new int[] {-1, 7, 8, 200, LOW, HIGH}) {
            Edges.refusedGet("INDEX " + i, States::busy, x -> x.get(0, 0, i), 2);
        }
        Edges.refusedGet("INDEX of no items", States::busy, x -> x.get(2, 2, 0), 2);
    }

    private static void copy() {
        Edges.says(31, "n items of TAPE t, from i on, come to TAPE u");
        WordWheel x = new WordWheel();
        States.write(x, 0, 2, "123456");
        States.write(x, 3, 2, "000");
        due("some", x.copy(0, 1, 3, 0, 2), 1);
        dueItems(x, 3, 2, 2, 3, 0);
        dueItems(x, 0, 2, 1, 2, 3, 4, 5, 6);
        due("the last to the last", x.copy(0, 5, 3, 2, 1), 1);
        dueItems(x, 3, 2, 2, 3, 6);
        due("all of the shorter one", x.copy(3, 0, 0, 3, 3), 1);
        dueItems(x, 0, 2, 1, 2, 3, 2, 3, 6);
        due("none", x.copy(0, 0, 3, 0, 0), 1);
        due("none, from behind the last", x.copy(0, 6, 3, 3, 0), 1);
        dueItems(x, 3, 2, 2, 3, 6);
        x.tape(1, 1, 200);
        x.tape(2, 1, 200);
        x.put(1, 1, 0, 65535);
        x.put(1, 1, 199, 65534);
        due("200", x.copy(1, 0, 2, 0, 200), 1);
        due("the first", x.get(2, 1, 0), 65535);
        due("the last", x.get(2, 1, 199), 65534);
        x.tape(3, 1, 0);
        due("none of none", x.copy(3, 0, 3, 0, 0), 1);
    }

    private static void copyAsTheyWere() {
        Edges.says(31, "(perhaps t, as they were), from j on: 1.");
        WordWheel x = new WordWheel();
        States.write(x, 0, 0, "123456");
        due("one on", x.copy(0, 0, 0, 1, 5), 1);
        dueItems(x, 0, 0, 1, 1, 2, 3, 4, 5);
        States.write(x, 0, 0, "123456");
        due("one back", x.copy(0, 1, 0, 0, 5), 1);
        dueItems(x, 0, 0, 2, 3, 4, 5, 6, 6);
        States.write(x, 0, 0, "123456");
        due("to where they are", x.copy(0, 2, 0, 2, 4), 1);
        dueItems(x, 0, 0, 1, 2, 3, 4, 5, 6);
        due("side by side", x.copy(0, 0, 0, 3, 3), 1);
        dueItems(x, 0, 0, 1, 2, 3, 1, 2, 3);
    }

    private static WordWheel twoOfBytes() {
        WordWheel x = States.busy();
        States.write(x, 3, 0, "2222");
        return x;
    }

    private static void copyRefuses() {
        Edges.says(31, "BAD: the TAPES");
        int[][] bad = {{-1, 0}, {4, 0}, {0, -1}, {0, 4}, {4, 4}, {LOW, 0}, {HIGH, 0}, {0, LOW}, {0, HIGH}};
        for (int[] b : bad) {
            Edges.refused("copy(" + b[0] + ", 0, " + b[1] + ", 0, 1)", States::busy, x -> x.copy(b[0], 0, b[1], 0, 1), BAD);
        }
        Edges.refused("ahead of NULL", States::busy, x -> x.copy(3, 0, 4, 0, 1), BAD);
        Edges.refused("ahead of NULL", States::busy, x -> x.copy(-1, 0, 3, 0, 1), BAD);
        Edges.refused("ahead of INDEX", States::busy, x -> x.copy(0, -1, 4, 0, -1), BAD);
        due("the first to the last is taken", twoOfBytes().copy(0, 0, 3, 0, 4), 1);
    }

    private static void copyNull() {
        Edges.says(31, "NULL: t, u");
        Edges.refused("t", States::busy, x -> x.copy(3, 0, 0, 0, 1), NULL);
        Edges.refused("u", States::busy, x -> x.copy(0, 0, 3, 0, 1), NULL);
        Edges.refused("both", States::busy, x -> x.copy(3, 0, 3, 0, 1), NULL);
        Edges.refused("no items", States::busy, x -> x.copy(0, 0, 3, 0, 0), NULL);
        Edges.refused("ahead of INDEX", States::busy, x -> x.copy(3, -1, 0, 0, 1), NULL);
        Edges.refused("ahead of INDEX", States::busy, x -> x.copy(0, 7, 3, 0, 1), NULL);
        Edges.refused("ahead of INDEX", States::busy, x -> x.copy(0, 0, 3, 0, -1), NULL);
        Edges.refused("what had another FORM", EdgesOfTapes::lostChars, x -> x.copy(0, 0, 1, 0, 1), NULL);
    }

    private static WordWheel lostChars() {
        WordWheel x = States.busy();
        x.lose(1);
        return x;
    }

    private static void copyStore() {
        Edges.says(31, "STORE");
        Edges.refused("bytes to chars", States::busy, x -> x.copy(0, 0, 1, 0, 1), STORE);
        Edges.refused("chars to bytes", States::busy, x -> x.copy(1, 0, 0, 0, 1), STORE);
        Edges.refused("shorts to chars, no items", States::busy, x -> x.copy(2, 0, 1, 0, 0), STORE);
        Edges.refused("ahead of INDEX", States::busy, x -> x.copy(0, 7, 1, 0, 1), STORE);
        Edges.refused("ahead of INDEX", States::busy, x -> x.copy(0, 0, 1, -1, 1), STORE);
        Edges.refused("ahead of INDEX", States::busy, x -> x.copy(0, 0, 2, 0, -1), STORE);
    }

    private static void copyIndex() {
        Edges.says(31, "INDEX: below 0, not so many.");
        int[][] taken = {{0, 0, 4}, {3, 0, 4}, {7, 4, 0}, {6, 3, 1}, {0, 4, 0}};
        for (int[] a : taken) {
            due("copy(0, " + a[0] + ", 3, " + a[1] + ", " + a[2] + ")", twoOfBytes().copy(0, a[0], 3, a[1], a[2]), 1);
        }
        int[][] bad = {
            {-1, 0, 1}, {0, -1, 1}, {0, 0, -1}, {-1, 0, 0}, {0, -1, 0}, {0, 0, 5}, {4, 0, 4}, {0, 1, 4}, {7, 0, 1}, {8, 0, 0},
            {0, 4, 1}, {0, 5, 0}, {1, 1, LOW}, {1, 1, HIGH}, {HIGH, 0, 1}, {0, HIGH, 1}, {LOW, 0, 1}, {0, LOW, 1},
            {HIGH, HIGH, HIGH}, {HIGH, HIGH, 0}, {LOW, LOW, LOW}, {2, 2, HIGH - 1}
        };
        for (int[] b : bad) {
            Edges.refused("copy(0, " + b[0] + ", 3, " + b[1] + ", " + b[2] + ")", EdgesOfTapes::twoOfBytes,
                    x -> x.copy(0, b[0], 3, b[1], b[2]), INDEX);
        }
        Edges.refused("within one TAPE", States::busy, x -> x.copy(0, 0, 0, 1, 7), INDEX);
        Edges.refused("from the shorter to the longer", EdgesOfTapes::twoOfBytes, x -> x.copy(3, 1, 0, 0, 4), INDEX);
    }

    private static void print() {
        Edges.says(32, "n LETTERS of THE ROUND, from place p on (round and round), come to a TAPE from item i on: n.");
        WordWheel x = States.written(2, 3, "9999999999");
        x.round(0);
        // 00010111
        due("the last LETTER and the first", x.print(0, 1, 7, 2), 2);
        dueItems(x, 0, 0, 9, 1, 0, 9, 9, 9, 9, 9, 9, 9);
        due("none", x.print(0, 0, 0, 0), 0);
        due("none, behind the last item", x.print(0, 10, 7, 0), 0);
        dueItems(x, 0, 0, 9, 1, 0, 9, 9, 9, 9, 9, 9, 9);
        due("the last item", x.print(0, 9, 3, 1), 1);
        due("it is", x.get(0, 0, 9), 1);
        due("all, from 0 on", x.print(0, 0, 0, 10), 10);
        dueItems(x, 0, 0, 0, 0, 0, 1, 0, 1, 1, 1, 0, 0);
        x.wheel(2, 1);
        x.round(0);
        x.tape(1, 1, 200);
        due("200 of two, round and round", x.print(1, 0, 1, 200), 200);
        for (int i = 0; i < 200; i++) {
            due("item " + i, x.get(1, 1, i), (i + 1) % 2);
        }
        // behind a longer ROUND, whose LETTERS were others
        x = States.busy();
        x.wheel(2, 2);
        x.round(0);
        due("7 of 0011, round and round", x.print(0, 0, 2, 7), 7);
        dueItems(x, 0, 0, 1, 1, 0, 0, 1, 1, 0);
    }

    private static void printRefuses() {
        Edges.says(32, "BAD: the TAPE, p, n below 0");
        due("place 26 is taken", States.busy().print(0, 0, 26, 1), 1);
        due("place 0 is taken", States.busy().print(0, 0, 0, 0), 0);
        int[][] bad = {
            {-1, 0, 1}, {4, 0, 1}, {0, -1, 1}, {0, 27, 1}, {0, 0, -1}, {LOW, 0, 1}, {HIGH, 0, 1}, {0, LOW, 1}, {0, HIGH, 1},
            {0, 0, LOW}, {0, 27, 0}
        };
        for (int[] b : bad) {
            Edges.refused("print(" + b[0] + ", 0, " + b[1] + ", " + b[2] + ")", States::busy, x -> x.print(b[0], 0, b[1], b[2]), BAD);
            Edges.refused("ahead of NOT", States::noRound, x -> x.print(b[0], 0, b[1], b[2]), BAD);
        }
        Edges.refused("ahead of NULL", States::busy, x -> x.print(3, 0, 27, 1), BAD);
        Edges.refused("ahead of NULL", States::busy, x -> x.print(3, 0, 0, -1), BAD);
        Edges.refused("ahead of INDEX", States::busy, x -> x.print(0, -1, 27, 1), BAD);
        Edges.refused("ahead of INDEX", States::busy, x -> x.print(0, 8, 0, -1), BAD);
    }

    private static void printWithoutRound() {
        Edges.says(32, "NOT: there is no ROUND");
        Edges.refused("print(0, 0, 0, 1)", States::noRound, x -> x.print(0, 0, 0, 1), NOT);
        Edges.refused("no LETTERS", States::noRound, x -> x.print(0, 0, 0, 0), NOT);
        Edges.refused("at first, ahead of NULL", States::fresh, x -> x.print(0, 0, 0, 1), NOT);
        Edges.refused("ahead of INDEX", States::noRound, x -> x.print(0, 7, 0, 1), NOT);
    }

    private static void printNull() {
        Edges.says(32, "NULL");
        Edges.refused("print(3, 0, 0, 1)", States::busy, x -> x.print(3, 0, 0, 1), NULL);
        Edges.refused("no LETTERS", States::busy, x -> x.print(3, 0, 0, 0), NULL);
        Edges.refused("ahead of INDEX", States::busy, x -> x.print(3, -1, 0, 1), NULL);
        Edges.refused("ahead of INDEX", States::busy, x -> x.print(3, 0, 0, 201), NULL);
    }

    private static void printIndex() {
        Edges.says(32, "INDEX: it has not so many items.");
        int[][] taken = {{0, 7}, {6, 1}, {7, 0}, {3, 4}};
        for (int[] a : taken) {
            due("print(0, " + a[0] + ", 0, " + a[1] + ")", States.busy().print(0, a[0], 0, a[1]), a[1]);
        }
        int[][] bad = {{0, 8}, {7, 1}, {8, 0}, {4, 4}, {-1, 1}, {-1, 0}, {0, HIGH}, {HIGH, 1}, {HIGH, HIGH}, {LOW, 1}, {LOW, HIGH}, {0, 201}};
        for (int[] b : bad) {
            Edges.refused("print(0, " + b[0] + ", 0, " + b[1] + ")", States::busy, x -> x.print(0, b[0], 0, b[1]), INDEX);
        }
        Edges.refused("no items", States::busy, x -> x.print(2, 0, 0, 1), INDEX);
    }

    private static void find() {
        Edges.says(33, "At how many places of THE ROUND n items (1 to 40) of a TAPE from item i on stand");
        WordWheel x = States.written(2, 3, "0001011100");
        x.round(0);
        // 00010111
        due("1 item", x.find(0, 0, 1, 0), 4);
        due("the last item", x.find(0, 9, 1, 0), 4);
        due("3 items, a WORD", x.find(0, 1, 3, 0), 1);
        due("over the end", x.find(0, 6, 4, 0), 1);
        due("there", x.found(), 6);
        due("once round and on", x.find(0, 0, 10, 0), 1);
        x.wheel(2, 1);
        x.round(0);
        x.tape(1, 2, 41);
        x.print(1, 0, 1, 41);
        due("40 items, round and round", x.find(1, 0, 40, 0), 1);
        due("there", x.found(), 1);
        due("the last 40 of 41", x.find(1, 1, 40, 0), 1);
        due("there", x.found(), 0);
        for (int n : new int[] {0, 41, -1, LOW, HIGH}) {
            Edges.refused("find(0, 0, " + n + ", 0)", States::busy, y -> y.find(0, 0, n, 0), BAD);
        }
        x.put(1, 2, 39, 7);
        due("a BLANK at the end of 40", x.find(1, 0, 40, 0), 1);
        x.put(1, 2, 39, 1);
        due("another LETTER at the end of 40", x.find(1, 0, 40, 0), 0);
        due("but not of 39", x.find(1, 0, 39, 0), 1);
        // behind a longer ROUND, whose LETTERS were others
        x = States.written(2, 4, "9999999");
        x.round(1);
        x.wheel(2, 2);
        x.round(0);
        x.print(0, 0, 2, 7);
        due("7 of 0011, round and round", x.find(0, 0, 7, 0), 1);
        due("there", x.found(), 2);
        due("1 0, over the end", x.find(0, 1, 2, 0), 1);
        due("there", x.found(), 3);
        due("0", x.find(0, 2, 1, 0), 2);
    }

    private static void findSlips() {
        Edges.says(33, "with at most so many slips (0 to 40): items that are LETTERS, but others than there.");
        WordWheel x = States.written(2, 3, "111");
        x.round(0);
        // 00010111: with 0, 1, 2, 3 slips 1, 4, 7, 8 places
        int[] places = {1, 4, 7, 8};
        for (int slips = 0; slips < 4; slips++) {
            due(slips + " slips", x.find(0, 0, 3, slips), places[slips]);
        }
        due("40 slips", x.find(0, 0, 3, 40), 8);
        x.put(0, 0, 1, 2);
        due("a BLANK is no slip: 1 ? 1 with none", x.find(0, 0, 3, 0), 2);
        x.put(0, 0, 0, -1);
        x.put(0, 0, 2, 127);
        due("only BLANKS", x.find(0, 0, 3, 0), 8);
        for (int k = 2; k <= 5; k++) {
            x = States.written(k, 1, "" + (k - 1));
            x.round(0);
            due("K " + k + ": the last LETTER", x.find(0, 0, 1, 0), 1);
            due("K " + k + ": there", x.found(), k - 1);
            due("K " + k + ": with a slip", x.find(0, 0, 1, 1), k);
            x.put(0, 0, 0, k);
            due("K " + k + ": one more, a BLANK", x.find(0, 0, 1, 0), k);
        }
        x.wheel(2, 1);
        x.round(0);
        x.tape(1, 0, 40);
        x.print(1, 0, 0, 40);
        due("39 slips of 40", x.find(1, 0, 40, 39), 1);
        due("40 slips of 40", x.find(1, 0, 40, 40), 2);
        for (int slips : new int[] {-1, 41, LOW, HIGH}) {
            Edges.refused(slips + " slips", States::busy, y -> y.find(0, 0, 1, slips), BAD);
        }
    }

    private static void findRefuses() {
        Edges.says(33, "BAD: the TAPE, n, slips");
        int[][] bad = {{-1, 1, 0}, {4, 1, 0}, {0, 0, 0}, {0, 41, 0}, {0, 1, -1}, {0, 1, 41}, {LOW, 1, 0}, {HIGH, 1, 0}, {4, 0, 41}};
        for (int[] b : bad) {
            Edges.refused("find(" + b[0] + ", 0, " + b[1] + ", " + b[2] + ")", States::busy, x -> x.find(b[0], 0, b[1], b[2]), BAD);
            Edges.refused("ahead of NOT", States::noRound, x -> x.find(b[0], 0, b[1], b[2]), BAD);
            Edges.refused("ahead of INDEX", States::busy, x -> x.find(b[0], -1, b[1], b[2]), BAD);
        }
        Edges.refused("ahead of NULL", States::busy, x -> x.find(3, 0, 0, 0), BAD);
        Edges.refused("ahead of NULL", States::busy, x -> x.find(3, 0, 1, 41), BAD);
        due("TAPE 0, 1 item, 40 slips are taken", States.busy().find(0, 0, 1, 40), 27);
    }

    private static void findWithoutRound() {
        Edges.says(33, "NOT: no ROUND");
        Edges.refused("find(0, 0, 1, 0)", States::noRound, x -> x.find(0, 0, 1, 0), NOT);
        Edges.refused("ahead of NULL", States::noRound, x -> x.find(3, 0, 1, 0), NOT);
        Edges.refused("ahead of INDEX", States::noRound, x -> x.find(0, 7, 1, 0), NOT);
    }

    private static void findNull() {
        Edges.says(33, "NULL");
        Edges.refused("find(3, 0, 1, 0)", States::busy, x -> x.find(3, 0, 1, 0), NULL);
        Edges.refused("ahead of INDEX", States::busy, x -> x.find(3, -1, 40, 0), NULL);
    }

    private static void findIndex() {
        Edges.says(33, "INDEX.");
        int[][] taken = {{0, 7}, {6, 1}, {3, 4}};
        for (int[] a : taken) {
            due("find(0, " + a[0] + ", " + a[1] + ", 40)", States.busy().find(0, a[0], a[1], 40), 27);
        }
        int[][] bad = {{0, 8}, {7, 1}, {4, 4}, {-1, 1}, {0, 40}, {HIGH, 1}, {HIGH, 40}, {LOW, 1}, {LOW, 40}};
        for (int[] b : bad) {
            Edges.refused("find(0, " + b[0] + ", " + b[1] + ", 40)", States::busy, x -> x.find(0, b[0], b[1], 40), INDEX);
        }
        Edges.refused("no items", States::busy, x -> x.find(2, 0, 1, 0), INDEX);
    }

    private static void found() {
        Edges.says(34, "The first of the places that the latest find() told of");
        WordWheel x = States.written(2, 3, "0111");
        x.round(0);
        // 00010111
        x.find(0, 0, 1, 0);
        due("place 0, the first", x.found(), 0);
        x.find(0, 0, 4, 0);
        due("place 4", x.found(), 4);
        x.find(0, 1, 1, 0);
        due("place 3 of 3, 5, 6, 7", x.found(), 3);
        x.put(0, 0, 0, 1);
        x.put(0, 0, 1, 0);
        x.put(0, 0, 2, 0);
        x.find(0, 0, 3, 0);
        due("place 7, the last", x.found(), 7);
    }

    private static void foundAbove0() {
        Edges.says(34, "(that answered above 0, behind wheel())");
        WordWheel x = States.written(2, 3, "0000111");
        x.round(0);
        due("1 1 1", x.find(0, 4, 3, 0), 1);
        due("place 5", x.found(), 5);
        due("0 0 0 0 stands nowhere", x.find(0, 0, 4, 0), 0);
        due("place 5 still", x.found(), 5);
        x.find(0, 0, 41, 0);
        due("behind BAD", x.found(), 5);
        x.find(0, 7, 1, 0);
        due("behind INDEX", x.found(), 5);
        x.round(1);
        due("behind another ROUND", x.found(), 5);
        x.lose(0);
        x.find(0, 0, 1, 0);
        due("behind NULL", x.found(), 5);
        x.wheel(3, 10);
        due("behind a wheel() that is BAD", x.found(), 5);
        x.wheel(2, 3);
        due("behind wheel()", x.found(), NONE);
        x.round(0);
        due("no find() behind wheel()", x.found(), NONE);
        States.write(x, 0, 0, "0000");
        due("nowhere", x.find(0, 0, 4, 0), 0);
        due("none that answered above 0 behind wheel()", x.found(), NONE);
        States.write(x, 0, 0, "1");
        x.find(0, 0, 1, 0);
        due("a find() behind wheel()", x.found(), 3);
    }

    private static void foundNone() {
        Edges.says(34, "NONE.");
        due("at first", new WordWheel().found(), NONE);
        due("behind wheel()", States.noRound().found(), NONE);
        WordWheel x = States.written(2, 3, "0000");
        x.round(0);
        x.find(0, 0, 4, 0);
        due("found nowhere", x.found(), NONE);
        x.find(0, 0, 0, 0);
        due("refused", x.found(), NONE);
    }
}
