import java.util.HashSet;
import java.util.Set;

/** The edges that the terms of the document name. */
final class EdgesOfTerms {
    private static final int NONE = Edges.NONE, BAD = Edges.BAD, NOT = Edges.NOT, FULL = Edges.FULL;
    private static final int NULL = Edges.NULL, INDEX = Edges.INDEX, CAST = Edges.CAST, STORE = Edges.STORE;
    private static final int SIZE = Edges.SIZE, LOW = Edges.LOW, HIGH = Edges.HIGH;

    private EdgesOfTerms() {
    }

    static void run() {
        calls512();
        letters();
        howManyLetters();
        howLong();
        howManyWords();
        atFirst();
        figures();
        turning();
        rings();
        leastAndSize();
        ringNumbers();
        even();
        leading();
        feedback();
        feedbackRoundK();
        registerAtFirst();
        right();
        exchanges400();
        exchanging();
        cycleNumbers();
        roundOrNone();
        placesGoRound();
        leastRound();
        greedyRound();
        cycleRound();
        tapesLostAtFirst();
        forms();
        items200();
        blanks();
        findings();
        findingNull();
        findingIndex();
        findingCast();
        findingStore();
        findingSize();
        leastParts();
        recurrences();
        leastRecurrence();
        leastNumbers();
        refusalsInOrder();
        refusalsChangeNothing();
    }

    private static void due(String call, long got, long want) {
        Edges.due(call, got, want);
    }

    private static void calls512() {
        Edges.beginningSays("An object is used for at most 512 calls after it has been made");
        WordWheel x = new WordWheel();
        for (int i = 1; i <= 510; i++) {
            due("call " + i, x.exchange(1, 5), i > 400 ? FULL : i % 2 == 1 ? 3 : 4);
        }
        due("call 511", x.back(), 399);
        due("call 512", x.cycles(), 3);
    }

    private static void letters() {
        Edges.termsSay("K - 1, WORDS rows of N of them");
        for (int k = 2; k <= 5; k++) {
            WordWheel x = States.written(k, 2, "0" + (k - 1));
            due("K " + k + ": the last LETTER on a TAPE", x.twice(0), NONE);
            due("K " + k + ": the last LETTER as a SUM", x.sum(k - 1), 0);
            due("K " + k + ": one more as a SUM", x.sum(k), BAD);
            due("K " + k + ": the WORD of two last LETTERS", x.turn(k * k - 1, 1), k * k - 1);
            due("K " + k + ": two LETTERS, turned", x.turn(k - 1, 1), (k - 1) * k);
            x.put(0, 0, 0, k);
            due("K " + k + ": one more on a TAPE", x.twice(0), NOT);
        }
    }

    private static void howManyLetters() {
        Edges.termsSay("(K 2 to 5");
        WordWheel x = new WordWheel();
        due("wheel(2, 1)", x.wheel(2, 1), 2);
        due("wheel(5, 1)", x.wheel(5, 1), 5);
        due("wheel(3, 1)", x.wheel(3, 1), 3);
        due("wheel(4, 1)", x.wheel(4, 1), 4);
        for (int k : new int[] {1, 6, 0, -1, -2, 7, LOW, HIGH}) {
            Edges.refused("wheel(" + k + ", 1)", States::busy, y -> y.wheel(k, 1), BAD);
        }
    }

    private static void howLong() {
        Edges.termsSay("N 1 to 14");
        WordWheel x = new WordWheel();
        due("wheel(2, 1)", x.wheel(2, 1), 2);
        due("wheel(2, 14)", x.wheel(2, 14), 16384);
        due("a WORD of 14 LETTERS", x.turn(1, 14), 1);
        due("a WORD of 14 LETTERS", x.turn(1, 13), 8192);
        for (int n : new int[] {0, 15, -1, 16, 31, 32, 33, LOW, HIGH}) {
            Edges.refused("wheel(2, " + n + ")", States::busy, y -> y.wheel(2, n), BAD);
        }
    }

    private static void howManyWords() {
        Edges.termsSay("K to the power of N at most 20000: ALL, that many WORDS");
        int[] longest = {0, 0, 14, 9, 7, 6};
        for (int k = 2; k <= 5; k++) {
            WordWheel x = new WordWheel();
            int all = 1;
            for (int n = 1; n <= longest[k]; n++) {
                all *= k;
                due("wheel(" + k + ", " + n + ")", x.wheel(k, n), all);
                due("ALL", x.count(2), all);
                due("the last WORD", x.least(all - 1), all - 1);
                due("one more", x.least(all), BAD);
            }
            for (int n = longest[k] + 1; n <= 40; n++) {
                due("wheel(" + k + ", " + n + ")", x.wheel(k, n), BAD);
            }
            due("the longest stays", x.count(1), longest[k]);
            due("ALL stays", x.count(2), all);
        }
    }

    private static void atFirst() {
        Edges.termsSay("K 2, N 3 at first)");
        WordWheel x = new WordWheel();
        due("K", x.count(0), 2);
        due("N", x.count(1), 3);
        due("ALL", x.count(2), 8);
        due("the last WORD", x.turn(7, 0), 7);
        due("one more", x.turn(8, 0), BAD);
    }

    private static void figures() {
        Edges.termsSay("A WORD is told as a number: its LETTERS as figures to the base K, the first the highest.");
        WordWheel x = new WordWheel();
        x.wheel(5, 3);
        due("0 0 0", x.turn(0, 1), 0);
        due("4 4 4", x.turn(124, 1), 124);
        due("4 0 1 becomes 0 1 4", x.turn(101, 1), 9);
        x.round(0);
        due("the first WORD of the ROUND", x.place(0), 0);
        int at = x.place(101);
        due("the highest", x.letter(at), 4);
        due("the next", x.letter((at + 1) % 125), 0);
        due("the lowest", x.letter((at + 2) % 125), 1);
    }

    private static void turning() {
        Edges.termsSay("TURNING a WORD by t: its first t LETTERS come behind the others.");
        WordWheel x = new WordWheel();
        x.wheel(2, 14);
        // 10 0000 0000 0011
        due("by 0", x.turn(8195, 0), 8195);
        due("by 1", x.turn(8195, 1), 7);
        due("by 2", x.turn(8195, 2), 14);
        due("by N - 1", x.turn(8195, 13), 12289);
        due("by N", x.turn(8195, 14), 8195);
        due("by N + 1", x.turn(8195, 15), 7);
        x.wheel(5, 1);
        due("of one LETTER", x.turn(3, 1), 3);
    }

    private static void rings() {
        Edges.termsSay("A RING is a WORD and all that it is turned to.");
        WordWheel x = new WordWheel();
        x.wheel(3, 4);
        Set<Integer> numbers = new HashSet<>();
        for (int t = 0; t < 9; t++) {
            numbers.add(x.ringOf(x.turn(5, t)));
        }
        due("0 0 1 2 and what it is turned to: one RING", numbers.size(), 1);
        due("0 0 2 1 is of another one", numbers.contains(x.ringOf(7)) ? 1 : 0, 0);
        x.wheel(4, 1);
        due("of one LETTER: as many RINGS as WORDS", x.rings(), 4);
    }

    private static void leastAndSize() {
        Edges.termsSay("Its LEAST is the least of these (as numbers), its SIZE how many they are.");
        WordWheel x = new WordWheel();
        x.wheel(2, 4);
        due("LEAST of 1 0 0 0", x.least(8), 1);
        due("SIZE of 1 0 0 0: N, the most", x.size(8), 4);
        due("LEAST of 1 0 1 0", x.least(10), 5);
        due("SIZE of 1 0 1 0", x.size(10), 2);
        due("LEAST of 1 1 1 1", x.least(15), 15);
        due("SIZE of 1 1 1 1: the least", x.size(15), 1);
    }

    private static void ringNumbers() {
        Edges.termsSay("RINGS are numbered from 0 by their LEAST.");
        WordWheel x = new WordWheel();
        int[] leasts = {0, 1, 3, 7};
        for (int r = 0; r < 4; r++) {
            due("RING " + r, x.ring(r), leasts[r]);
            due("the number of " + leasts[r], x.ringOf(leasts[r]), r);
        }
        due("RING 4", x.ring(4), BAD);
        due("RING -1", x.ring(-1), BAD);
    }

    private static void even() {
        Edges.termsSay("A RING is EVEN, if the LEAST of its LEAST read backward is its LEAST.");
        WordWheel x = new WordWheel();
        x.wheel(3, 3);
        due("0 1 2 backward is 2 1 0, its LEAST 0 2 1", x.even(5), 0);
        due("0 0 1 backward is 1 0 0, its LEAST 0 0 1", x.even(1), 1);
        due("as all of its RING", x.even(9), 1);
        x.wheel(3, 2);
        for (int w = 0; w < 9; w++) {
            due("two LETTERS " + w, x.even(w), 1);
        }
    }

    private static void leading() {
        Edges.termsSay("A REGISTER leads from each WORD to another one: its first LETTER goes, another one comes behind.");
        WordWheel x = new WordWheel();
        x.wheel(3, 3);
        x.sum(2);
        due("0 0 0 leads to 0 0 2", x.go(0), 2);
        due("2 2 2 leads to 2 2 1", x.go(26), 25);
        due("1 2 0 leads to 2 0 0", x.go(15), 18);
        x.wheel(5, 1);
        x.sum(4);
        due("of one LETTER: 0 leads to 4", x.go(0), 4);
        due("of one LETTER: 1 leads to 0", x.go(1), 0);
    }

    private static void feedback() {
        Edges.termsSay("FEEDBACK: FACTORS F 0 .. F (N - 1) and a SUM (0 .. K - 1 each)");
        WordWheel x = new WordWheel();
        x.wheel(4, 3);
        due("F 0, the first", x.factor(0, 3), 1);
        due("F 2, the last", x.factor(2, 3), 0);
        due("F 2 may be 0", x.factor(2, 0), 3);
        due("F 3", x.factor(3, 0), BAD);
        due("F -1", x.factor(-1, 0), BAD);
        due("F 0 as 4", x.factor(0, 4), BAD);
        due("F 0 as -1", x.factor(0, -1), BAD);
        due("SUM 3", x.sum(3), 0);
        due("SUM 4", x.sum(4), BAD);
        due("SUM -1", x.sum(-1), BAD);
        due("SUM 0", x.sum(0), 3);
    }

    private static void feedbackRoundK() {
        Edges.termsSay("the LETTER that comes is SUM and all F i times LETTER i (from 0) together, modulo K.");
        WordWheel x = new WordWheel();
        x.wheel(5, 6);
        for (int i = 0; i < 6; i++) {
            x.factor(i, 4);
        }
        x.sum(4);
        due("4 and 6 times 16 are 100: 0", x.go(15624), 15620);
        due("4 and 5 times 16 are 84: 4", x.go(15624 - 4), (15624 - 4) % 3125 * 5 + 4);
        due("4 and nothing", x.go(0), 4);
        x.wheel(3, 2);
        x.factor(1, 2);
        x.sum(2);
        due("just K - 1: 0 0", x.go(0), 2);
        due("just K: 1 0", x.go(3), 0);
        due("K + 1: 0 1", x.go(1), 4);
    }

    private static void registerAtFirst() {
        Edges.termsSay("At first F 0 is 1, the others and SUM are 0 (it turns).");
        WordWheel x = new WordWheel();
        for (int w = 0; w < 8; w++) {
            due("go(" + w + ")", x.go(w), x.turn(w, 1));
        }
        due("F 0", x.factor(0, 0), 1);
        due("F 1", x.factor(1, 0), 0);
        due("F 2", x.factor(2, 0), 0);
        due("SUM", x.sum(0), 0);
    }

    private static void right() {
        Edges.termsSay("It is RIGHT, if no two WORDS lead to one.");
        for (int k = 2; k <= 5; k++) {
            for (int v = 0; v < k; v++) {
                WordWheel x = new WordWheel();
                x.wheel(k, 2);
                x.factor(0, v);
                x.factor(1, k - 1);
                Set<Integer> led = new HashSet<>();
                for (int w = 0; w < k * k; w++) {
                    led.add(x.go(w));
                }
                due("K " + k + ", F 0 is " + v, x.right(), led.size() == k * k ? 1 : 0);
            }
        }
    }

    private static void exchanges400() {
        Edges.termsSay("EXCHANGES, at most 400");
        WordWheel x = States.almostFull();
        due("399 of them", x.count(3), 399);
        due("one more", x.exchange(0, 1024), 2);
        due("400 of them", x.count(3), 400);
        Edges.refused("exchange 401", States::full, y -> y.exchange(0, 1024), FULL);
        Edges.refused("as 401 by join", States::full, y -> y.join(), FULL);
    }

    private static void exchanging() {
        Edges.termsSay("two WORDS that differ in their first LETTER alone exchange where they lead.");
        WordWheel x = new WordWheel();
        x.wheel(5, 2);
        due("0 3 and 4 3, the first and the last LETTER", x.exchange(3, 23), 14);
        due("0 3 leads as 4 3 did", x.go(3), 19);
        due("4 3 leads as 0 3 did", x.go(23), 15);
        due("1 3 leads on", x.go(8), 16);
        due("0 3 and 0 4 differ in the last", x.exchange(3, 4), BAD);
        due("0 3 and 1 4 differ in both", x.exchange(3, 9), BAD);
        due("0 3 and 0 3 do not differ", x.exchange(3, 3), BAD);
        x.wheel(5, 1);
        due("of one LETTER", x.exchange(0, 4), 4);
    }

    private static void cycleNumbers() {
        Edges.termsSay("CYCLES: WORDS that lead to one another, numbered from 0 by their least WORDS.");
        WordWheel x = new WordWheel();
        int[] numbers = {0, 1, 1, 2, 1, 2, 2, 3};
        for (int w = 0; w < 8; w++) {
            due("cycleOf(" + w + ")", x.cycleOf(w), numbers[w]);
        }
        x.exchange(0, 4);
        due("CYCLE 0 takes CYCLE 1 in", x.cycleOf(4), 0);
        due("CYCLE 2 becomes CYCLE 1", x.cycleOf(3), 1);
        due("CYCLE 3 becomes CYCLE 2", x.cycleOf(7), 2);
    }

    private static void roundOrNone() {
        Edges.termsSay("THE ROUND is a ring of ALL LETTERS, numbered from 0, or is not there (so at first, and behind wheel()).");
        WordWheel x = new WordWheel();
        due("at first", x.count(4), NONE);
        due("no LETTER 0", x.letter(0), BAD);
        due("ALL LETTERS", x.round(0), 8);
        due("LETTER 0", x.letter(0), 0);
        due("LETTER ALL - 1", x.letter(7), 1);
        due("LETTER ALL", x.letter(8), BAD);
        due("LETTER -1", x.letter(-1), BAD);
        due("the same wheel again", x.wheel(2, 3), 8);
        due("behind wheel()", x.count(4), NONE);
        due("no LETTER 0", x.letter(0), BAD);
    }

    private static void placesGoRound() {
        Edges.termsSay("At place i stands the WORD of LETTERS i, i + 1, .. (behind the last one the first).");
        WordWheel x = new WordWheel();
        x.wheel(2, 4);
        x.round(0);
        // 0000100110101111
        due("the last place that needs no LETTER behind the last: 1 1 1 1", x.place(15), 12);
        due("1 1 1, and 0 again", x.place(14), 13);
        due("1 1, and 0 0 again", x.place(12), 14);
        due("1, and 0 0 0 again", x.place(8), 15);
        x.wheel(2, 1);
        x.round(0);
        due("of one LETTER, nothing goes round", x.place(1), 1);
        // behind a longer ROUND, whose LETTERS were others
        x = States.busy();
        x.wheel(2, 4);
        for (int kind = 0; kind < 2; kind++) {
            x.round(kind);
            for (int p = 0; p < 16; p++) {
                int word = 0;
                for (int i = 0; i < 4; i++) {
                    word = word * 2 + x.letter((p + i) % 16);
                }
                due("round(" + kind + "): the WORD at place " + p, x.place(word), p);
            }
        }
    }

    private static void dueLetters(WordWheel x, String letters) {
        for (int i = 0; i < letters.length(); i++) {
            due("LETTER " + i + " of " + letters, x.letter(i), letters.charAt(i) - '0');
        }
        due("none behind " + letters, x.letter(letters.length()), BAD);
    }

    private static void leastRound() {
        Edges.termsSay("LEAST ROUND: of the RINGS, by their numbers, the first SIZE LETTERS of each LEAST, one behind the other.");
        WordWheel x = new WordWheel();
        x.wheel(2, 4);
        x.round(0);
        dueLetters(x, "0" + "0001" + "0011" + "01" + "0111" + "1");
        x.wheel(2, 1);
        x.round(0);
        dueLetters(x, "01");
        x.wheel(5, 1);
        x.round(0);
        dueLetters(x, "01234");
        x.wheel(5, 2);
        x.round(0);
        dueLetters(x, "0" + "01020304" + "1" + "121314" + "2" + "2324" + "3" + "34" + "4");
    }

    private static void greedyRound() {
        Edges.termsSay("GREEDY ROUND: begins with N LETTERS 0; then, again and again, the greatest LETTER that makes, with the"
                + " N - 1 LETTERS ahead of it, a WORD that has not come; ALL LETTERS of this (those behind are the first ones"
                + " again).");
        WordWheel x = new WordWheel();
        x.wheel(2, 4);
        x.round(1);
        dueLetters(x, "0000" + "111101100101");
        x.wheel(5, 1);
        x.round(1);
        dueLetters(x, "0" + "4321");
        x.wheel(2, 1);
        x.round(1);
        dueLetters(x, "01");
        x.wheel(3, 2);
        x.round(1);
        dueLetters(x, "00" + "2212011");
        due("1 and the first 0: the last place", x.place(3), 8);
    }

    private static void cycleRound() {
        Edges.termsSay("CYCLE ROUND: of a REGISTER with one CYCLE: LETTER i is the first LETTER of the WORD to which i steps lead"
                + " from WORD 0.");
        WordWheel x = new WordWheel();
        x.wheel(5, 1);
        x.sum(2);
        due("round(2)", x.round(2), 5);
        dueLetters(x, "02413");
        x.wheel(2, 3);
        x.factor(1, 1);
        x.exchange(0, 4);
        x.round(2);
        // 0 1 2 5 3 7 6 4
        dueLetters(x, "00010111");
        int word = 0;
        for (int i = 0; i < 8; i++) {
            due(i + " steps", x.place(word), i);
            word = x.go(word);
        }
        due("ALL steps lead to WORD 0 again", word, 0);
    }

    private static void tapesLostAtFirst() {
        Edges.termsSay("TAPES 0 .. 3 are LOST (at first)");
        for (int t : new int[] {0, 1, 2, 3}) {
            Edges.refused("lose(" + t + ")", States::fresh, y -> y.lose(t), NULL);
        }
        for (int t : new int[] {-1, 4, LOW, HIGH}) {
            Edges.refused("lose(" + t + ")", States::fresh, y -> y.lose(t), BAD);
        }
    }

    private static void forms() {
        Edges.termsSay("or a row of a FORM: 0 bytes, 1 chars, 2 shorts");
        int[] least = {-128, 0, -32768};
        int[] most = {127, 65535, 32767};
        for (int form = 0; form < 3; form++) {
            WordWheel x = new WordWheel();
            x.tape(0, form, 1);
            x.put(0, form, 0, least[form]);
            due("the least of FORM " + form, x.get(0, form, 0), least[form]);
            x.put(0, form, 0, least[form] - 1);
            due("one less goes round", x.get(0, form, 0), most[form]);
            x.put(0, form, 0, most[form] + 1);
            due("one above the most goes round", x.get(0, form, 0), least[form]);
        }
        WordWheel x = new WordWheel();
        due("FORM 3", x.tape(0, 3, 1), BAD);
        due("FORM -1", x.tape(0, -1, 1), BAD);
    }

    private static void items200() {
        Edges.termsSay("of 0 to 200 items (0 at first).");
        for (int form = 0; form < 3; form++) {
            WordWheel x = new WordWheel();
            due("no items", x.tape(0, form, 0), 0);
            due("it has none", x.lose(0), 0);
            due("one item", x.tape(0, form, 1), 1);
            due("200 items", x.tape(0, form, 200), 200);
            for (int i = 0; i < 200; i++) {
                due("item " + i + " at first", x.get(0, form, i), 0);
                x.put(0, form, i, 7);
            }
            due("it has 200", x.lose(0), 200);
            x.tape(0, form, 200);
            due("the first item of a new row", x.get(0, form, 0), 0);
            due("the last item of a new row", x.get(0, form, 199), 0);
            due("201 items", x.tape(0, form, 201), BAD);
            due("-1 items", x.tape(0, form, -1), SIZE);
            due("it still has 200", x.lose(0), 200);
        }
    }

    private static void blanks() {
        Edges.termsSay("An item that is none of 0 .. K - 1 is a BLANK.");
        for (int k = 2; k <= 5; k++) {
            WordWheel x = States.written(k, 1, "0");
            for (int v : new int[] {-1, 0, 1, k - 1, k, k + 1, 127, -128}) {
                x.put(0, 0, 0, v);
                due("K " + k + ": " + v, x.parts(0), v >= 0 && v < k ? 1 : NOT);
            }
        }
        WordWheel x = States.written(3, 1, "2");
        due("2 is a LETTER of 3", x.parts(0), 1);
        x.wheel(2, 1);
        due("and a BLANK of 2", x.parts(0), NOT);
        x.wheel(5, 1);
        due("and a LETTER of 5", x.parts(0), 1);
        x.tape(1, 1, 1);
        x.put(1, 1, 0, -1);
        due("the most that a char is", x.parts(1), NOT);
        x.put(1, 1, 0, 256);
        due("256, a 0 of a byte alone", x.parts(1), NOT);
    }

    private static void findings() {
        Edges.termsSay("FINDINGS (answers -10 less the number; they change nothing):");
        Edges.refused("NULL, 1", States::busy, x -> x.twice(3), -11);
        Edges.refused("INDEX, 2", States::busy, x -> x.put(0, 0, 7, 1), -12);
        Edges.refused("CAST, 3", States::busy, x -> x.put(0, 1, 0, 1), -13);
        Edges.refused("STORE, 4", States::busy, x -> x.copy(0, 0, 1, 0, 1), -14);
        Edges.refused("SIZE, 5", States::busyNull, x -> x.tape(0, 0, -1), -15);
    }

    private static void findingNull() {
        Edges.termsSay("1 NULL: the TAPE is LOST");
        Edges.refused("lose", States::busy, x -> x.lose(3), NULL);
        Edges.refused("put", States::busy, x -> x.put(3, 0, 0, 1), NULL);
        Edges.refusedGet("get", States::busy, x -> x.get(3, 0, 0), 1);
        Edges.refused("copy from it", States::busy, x -> x.copy(3, 0, 0, 0, 0), NULL);
        Edges.refused("copy to it", States::busy, x -> x.copy(0, 0, 3, 0, 0), NULL);
        Edges.refused("print", States::busy, x -> x.print(3, 0, 0, 0), NULL);
        Edges.refused("find", States::busy, x -> x.find(3, 0, 1, 0), NULL);
        Edges.refused("twice", States::busy, x -> x.twice(3), NULL);
        Edges.refused("parts", States::busy, x -> x.parts(3), NULL);
        Edges.refused("recurrence", States::busy, x -> x.recurrence(3), NULL);
        WordWheel x = new WordWheel();
        x.tape(0, 0, 0);
        due("a TAPE of no items is not LOST", x.parts(0), 0);
    }

    private static void findingIndex() {
        Edges.termsSay("2 INDEX: there is no such item");
        Edges.refused("item 7 of 7", States::busy, x -> x.put(0, 0, 7, 1), INDEX);
        Edges.refused("item -1", States::busy, x -> x.put(0, 0, -1, 1), INDEX);
        Edges.refused("item 0 of none", States::busy, x -> x.put(2, 2, 0, 1), INDEX);
        WordWheel x = States.busy();
        due("item 6 of 7", x.put(0, 0, 6, 1), 1);
        due("item 0 of 7", x.put(0, 0, 0, 1), 1);
    }

    private static void findingCast() {
        Edges.termsSay("3 CAST: it has another FORM");
        for (int t = 0; t < 3; t++) {
            for (int form = 0; form < 3; form++) {
                int tape = t;
                int as = form;
                if (t == form) {
                    WordWheel x = new WordWheel();
                    x.tape(t, form, 1);
                    due("FORM " + form + " as of its own", x.put(t, form, 0, 1), 1);
                } else {
                    Edges.refused("FORM " + t + " as of FORM " + form, States::busy, y -> y.put(tape, as, 0, 1), CAST);
                }
            }
        }
    }

    private static void findingStore() {
        Edges.termsSay("4 STORE: unlike FORMS");
        for (int t = 0; t < 3; t++) {
            for (int u = 0; u < 3; u++) {
                int from = t;
                int to = u;
                if (t == u) {
                    due("FORM " + t + " to its own", States.busy().copy(t, 0, u, 0, 0), 1);
                } else {
                    Edges.refused("FORM " + t + " to FORM " + u, States::busy, y -> y.copy(from, 0, to, 0, 0), STORE);
                }
            }
        }
    }

    private static void findingSize() {
        Edges.termsSay("5 SIZE: below 0.");
        Edges.refused("-1 items", States::busyNull, x -> x.tape(0, 0, -1), SIZE);
        Edges.refused("the least int", States::busyNull, x -> x.tape(3, 2, LOW), SIZE);
        WordWheel x = States.busyNull();
        due("0 items", x.tape(0, 0, 0), 0);
        due("0 items: no finding", x.count(5), 1);
    }

    private static void leastParts() {
        Edges.termsSay("LEAST PARTS of a row of LETTERS: the only way to part it into rows, none of them less than the one behind,"
                + " each of which is less than all that it is turned to (by less than its length); rows stand as in a"
                + " dictionary.");
        dueParts("", new int[] {});
        dueParts("2", new int[] {0});
        dueParts("22", new int[] {0, 1});
        dueParts("0101", new int[] {0, 2});
        dueParts("010", new int[] {0, 2});
        dueParts("01001", new int[] {0, 2});
        dueParts("01011", new int[] {0});
        dueParts("00", new int[] {0, 1});
        dueParts("210", new int[] {0, 1, 2});
        dueParts("012", new int[] {0});
    }

    private static void dueParts(String row, int[] begins) {
        WordWheel x = States.written(3, 1, row);
        due("parts of " + row, x.parts(0), begins.length);
        for (int k = 0; k < begins.length; k++) {
            due("part " + k + " of " + row, x.part(k), begins[k]);
        }
        due("none behind in " + row, x.part(begins.length), BAD);
    }

    private static void recurrences() {
        Edges.termsSay("A RECURRENCE of length L (K 2, 3, 5): C 1 .. C L (0 .. K - 1), by which each LETTER from number L on is the"
                + " sum of C j times the LETTER j ahead of it, modulo K.");
        dueRecurrence(2, "1111", 1);
        dueRecurrence(3, "1212", 2);
        dueRecurrence(5, "13421342", 3);
        dueRecurrence(5, "0112303314", 1, 1);
        dueRecurrence(5, "1414", 4);
        due("K 4", States.written(4, 1, "1111").recurrence(0), NOT);
        // LETTERS up to number L - 1 need no rule
        dueRecurrence(3, "002", 0, 0, 0);
        dueRecurrence(3, "2", 0);
    }

    private static void dueRecurrence(int k, String row, int... numbers) {
        WordWheel x = States.written(k, 1, row);
        due("K " + k + ": recurrence of " + row, x.recurrence(0), numbers.length);
        for (int j = 1; j <= numbers.length; j++) {
            due("C " + j + " of " + row, x.coefficient(j), numbers[j - 1]);
        }
        due("C 0 of " + row, x.coefficient(0), BAD);
        due("none behind in " + row, x.coefficient(numbers.length + 1), BAD);
    }

    private static void leastRecurrence() {
        Edges.termsSay("The LEAST one has the least L (0: all LETTERS are 0)");
        dueRecurrence(2, "0");
        dueRecurrence(5, "0000000");
        dueRecurrence(3, "");
        dueRecurrence(3, "0001", 0, 0, 0, 0);
        dueRecurrence(3, "1000", 0);
    }

    private static void leastNumbers() {
        Edges.termsSay("of as long ones that which has, from C 1 on, the least numbers.");
        // each C 1 would do
        dueRecurrence(5, "3", 0);
        // 3 is to be C 1 times 2 and C 2: to each C 1 there is a C 2
        dueRecurrence(5, "123", 0, 3);
        dueRecurrence(2, "110", 0, 0);
        dueRecurrence(2, "111", 1);
    }

    private static void refusalsInOrder() {
        Edges.termsSay("Refusals, the first that fits: BAD -2 (a number not as told, no such thing), NOT -3 (as told), FULL -4,"
                + " FINDINGS.");
        due("BAD", WordWheel.BAD, -2);
        due("NOT", WordWheel.NOT, -3);
        due("FULL", WordWheel.FULL, -4);
        due("NONE", WordWheel.NONE, -1);
        Edges.refused("BAD ahead of NOT", States::notRight, x -> x.exchange(0, 1), BAD);
        Edges.refused("BAD ahead of FULL", States::full, x -> x.exchange(0, 1), BAD);
        Edges.refused("BAD ahead of a FINDING", States::busy, x -> x.find(3, 0, 0, 0), BAD);
        Edges.refused("NOT ahead of a FINDING", States::noRound, x -> x.find(3, 0, 1, 0), NOT);
    }

    private static void refusalsChangeNothing() {
        Edges.termsSay("They change nothing (a FINDING but count() 5).");
        Edges.refused("a BAD one", States::busy, x -> x.wheel(2, 15), BAD);
        Edges.refused("a NOT", States::busy, x -> x.round(2), NOT);
        Edges.refused("a FULL", States::full, x -> x.join(), FULL);
        Edges.refused("a FINDING", States::busy, x -> x.recurrence(3), NULL);
        WordWheel x = States.busy();
        due("the FINDING ahead", x.count(5), 5);
        x.twice(3);
        due("count(5) tells the one behind", x.count(5), 1);
        x.twice(4);
        due("BAD is no FINDING", x.count(5), 1);
        x.twice(1);
        due("NOT is no FINDING", x.count(5), 1);
    }
}
