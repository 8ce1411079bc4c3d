import java.math.BigInteger;
import java.util.HashSet;
import java.util.Set;

/** The edges of promises 35 to 41: what is read from tapes, and what is told of the object. */
final class EdgesOfReadings {
    private static final int NONE = Edges.NONE, BAD = Edges.BAD, NOT = Edges.NOT;
    private static final int NULL = Edges.NULL, LOW = Edges.LOW, HIGH = Edges.HIGH;

    private EdgesOfReadings() {
    }

    static void run() {
        twice();
        twiceNone();
        twiceRefuses();
        twiceNull();
        twiceNot();
        parts();
        partsRefuses();
        partsNull();
        partsNot();
        part();
        partRefuses();
        recurrence();
        recurrenceRefuses();
        recurrenceNull();
        recurrenceNot();
        coefficient();
        coefficientOfLater();
        coefficientRefuses();
        count();
        countOfRounds();
        countOfFindings();
        countRefuses();
        digest();
        digestWraps();
    }

    private static void due(String call, long got, long want) {
        Edges.due(call, got, want);
    }

    private static void twice() {
        Edges.says(35, "The first item of a TAPE at which a WORD begins, round and round, that began at an earlier one, too");
        due("item 1, the least", States.written(2, 3, "00").twice(0), 1);
        due("the first of several", States.written(2, 1, "0111").twice(0), 2);
        due("0 1 0 at 0 and 3", States.written(2, 3, "010010").twice(0), 3);
        due("the last item, over the end: 0 0 at 0 and 4", States.written(2, 2, "00110").twice(0), 4);
        due("more LETTERS than items", States.written(2, 14, "0101").twice(0), 2);
        WordWheel x = new WordWheel();
        x.wheel(2, 8);
        x.round(0);
        x.tape(0, 0, 200);
        x.print(0, 0, 0, 200);
        due("200 items", x.twice(0), firstAgain(x));
        x.put(0, 0, 199, 0);
        x.put(0, 0, 198, 0);
        due("200 items with two 0 at the end", x.twice(0), firstAgain(x));
        x.wheel(2, 2);
        due("200 items, at most 4 WORDS", x.twice(0), 1);
    }

    /** What twice() is due to answer for 200 bytes and N 8. */
    private static int firstAgain(WordWheel x) {
        StringBuilder row = new StringBuilder();
        for (int i = 0; i < 200; i++) {
            row.append(x.get(0, 0, i));
        }
        row.append(row);
        Set<String> begun = new HashSet<>();
        for (int i = 0; i < 200; i++) {
            if (!begun.add(row.substring(i, i + 8))) {
                return i;
            }
        }
        return NONE;
    }

    private static void twiceNone() {
        Edges.says(35, "NONE: none does.");
        due("one item", States.written(2, 3, "1").twice(0), NONE);
        due("one item, the most LETTERS", States.written(2, 14, "0").twice(0), NONE);
        due("two items", States.written(2, 3, "01").twice(0), NONE);
        due("each WORD once", States.written(2, 3, "00010111").twice(0), NONE);
        due("one more", States.written(2, 3, "000101110").twice(0) == NONE ? 1 : 0, 0);
        due("each LETTER once", States.written(5, 1, "43210").twice(0), NONE);
    }

    private static void twiceRefuses() {
        Edges.says(35, "BAD");
        due("TAPE 0 is taken", States.busy().twice(0) == BAD ? 1 : 0, 0);
        for (int t : new int[] {-1, 4, LOW, HIGH}) {
            Edges.refused("twice(" + t + ")", States::busy, x -> x.twice(t), BAD);
        }
    }

    private static void twiceNull() {
        Edges.says(35, "NULL");
        Edges.refused("twice(3)", States::busy, x -> x.twice(3), NULL);
        Edges.refused("what had BLANKS", EdgesOfReadings::lostBlanks, x -> x.twice(1), NULL);
        Edges.refused("what had no items", EdgesOfReadings::lostBlanks, x -> x.twice(2), NULL);
    }

    private static WordWheel lostBlanks() {
        WordWheel x = States.busy();
        x.lose(1);
        x.lose(2);
        x.tape(3, 0, -1);
        return x;
    }

    private static void twiceNot() {
        Edges.says(35, "NOT: it has BLANKS, or no items.");
        Edges.refused("BLANKS", States::busy, x -> x.twice(1), NOT);
        Edges.refused("no items", States::busy, x -> x.twice(2), NOT);
        for (int at = 0; at < 3; at++) {
            WordWheel x = States.written(3, 2, "012");
            due("no BLANKS", x.twice(0), NONE);
            x.put(0, 0, at, 3);
            due("K, at " + at, x.twice(0), NOT);
            x.put(0, 0, at, -1);
            due("-1, at " + at, x.twice(0), NOT);
        }
        WordWheel x = States.written(3, 1, "11");
        x.put(0, 0, 1, 9);
        due("a BLANK behind the last that matters", x.twice(0), NOT);
        // the items of a longer row that is no more do not count
        States.write(x, 0, 0, "0999");
        States.write(x, 0, 0, "0");
        due("none of the earlier row's BLANKS", x.twice(0), NONE);
    }

    private static void parts() {
        Edges.says(36, "How many LEAST PARTS a TAPE has.");
        due("no items, none", States.written(2, 3, "").parts(0), 0);
        due("one item", States.written(2, 3, "1").parts(0), 1);
        due("all alike", States.written(5, 1, "4444").parts(0), 4);
        due("falling", States.written(5, 1, "43210").parts(0), 5);
        due("rising", States.written(5, 1, "01234").parts(0), 1);
        due("a part twice and its begin", States.written(3, 1, "0010010").parts(0), 3);
        WordWheel x = new WordWheel();
        x.tape(0, 0, 200);
        due("200 of them", x.parts(0), 200);
        x.put(0, 0, 199, 1);
        due("one of 200 items", x.parts(0), 1);
        due("it begins", x.part(0), 0);
    }

    private static void partsRefuses() {
        Edges.says(36, "BAD");
        due("TAPE 0 is taken", States.busy().parts(0), 3);
        for (int t : new int[] {-1, 4, LOW, HIGH}) {
            Edges.refused("parts(" + t + ")", States::busy, x -> x.parts(t), BAD);
        }
    }

    private static void partsNull() {
        Edges.says(36, "NULL");
        Edges.refused("parts(3)", States::busy, x -> x.parts(3), NULL);
        Edges.refused("what had BLANKS", EdgesOfReadings::lostBlanks, x -> x.parts(1), NULL);
    }

    private static void partsNot() {
        Edges.says(36, "NOT: it has BLANKS.");
        Edges.refused("parts(1)", States::busy, x -> x.parts(1), NOT);
        for (int at = 0; at < 3; at++) {
            WordWheel x = States.written(3, 2, "210");
            due("no BLANKS", x.parts(0), 3);
            x.put(0, 0, at, 3);
            due("K, at " + at, x.parts(0), NOT);
            x.put(0, 0, at, -1);
            due("-1, at " + at, x.parts(0), NOT);
        }
    }

    private static void part() {
        Edges.says(37, "The item at which LEAST PART k of the latest parts() that told some begins.");
        WordWheel x = States.written(3, 1, "1100");
        x.parts(0);
        for (int k = 0; k < 4; k++) {
            due("part(" + k + ")", x.part(k), k);
        }
        States.write(x, 1, 0, "");
        due("parts() of no items tells none", x.parts(1), 0);
        due("the latest that told some", x.part(3), 3);
        States.write(x, 1, 0, "9");
        due("parts() of a BLANK", x.parts(1), NOT);
        due("the latest that told some", x.part(3), 3);
        due("parts() of a LOST one", x.parts(2), NULL);
        due("parts() of no TAPE", x.parts(4), BAD);
        due("the latest that told some", x.part(3), 3);
        States.write(x, 0, 0, "012");
        x.lose(1);
        x.wheel(2, 2);
        due("other TAPES, another wheel", x.part(3), 3);
        States.write(x, 0, 0, "01");
        due("a later parts()", x.parts(0), 1);
        due("its only one", x.part(0), 0);
        due("none behind", x.part(1), BAD);
    }

    private static void partRefuses() {
        Edges.says(37, "BAD.");
        due("the last of 3 is taken", States.busy().part(2), 6);
        for (int k : new int[] {-1, 3, 4, 199, 200, LOW, HIGH}) {
            Edges.refused("part(" + k + ") of 3", States::busy, x -> x.part(k), BAD);
        }
        Edges.refused("part(0) before any", States::fresh, x -> x.part(0), BAD);
        WordWheel x = new WordWheel();
        x.tape(0, 0, 0);
        x.parts(0);
        due("part(0) behind none", x.part(0), BAD);
        x.tape(0, 0, 200);
        x.parts(0);
        due("the last of 200", x.part(199), 199);
        due("one more", x.part(200), BAD);
        due("one less than 0", x.part(-1), BAD);
    }

    private static void recurrence() {
        Edges.says(38, "The length of the LEAST RECURRENCE of a TAPE.");
        due("no items", States.written(2, 1, "").recurrence(0), 0);
        due("one 0", States.written(2, 1, "0").recurrence(0), 0);
        due("one 1", States.written(2, 1, "1").recurrence(0), 1);
        WordWheel x = new WordWheel();
        x.wheel(5, 1);
        x.tape(0, 0, 200);
        due("200 times 0", x.recurrence(0), 0);
        x.put(0, 0, 199, 4);
        due("as long as the TAPE", x.recurrence(0), 200);
        x.put(0, 0, 199, 0);
        x.put(0, 0, 0, 4);
        due("1, behind one LETTER", x.recurrence(0), 1);
        x.put(0, 0, 99, 4);
        x.put(0, 0, 0, 0);
        due("the middle, and nothing behind it", x.recurrence(0), 100);
        for (int k : new int[] {2, 3, 5}) {
            due("K " + k, States.written(k, 1, "0101").recurrence(0), 2);
        }
    }

    private static void recurrenceRefuses() {
        Edges.says(38, "BAD");
        due("TAPE 0 is taken", States.busy().recurrence(0) > 0 ? 1 : 0, 1);
        for (int t : new int[] {-1, 4, LOW, HIGH}) {
            Edges.refused("recurrence(" + t + ")", States::busy, x -> x.recurrence(t), BAD);
            Edges.refused("recurrence(" + t + "), K 4", States::fourLetters, x -> x.recurrence(t), BAD);
        }
    }

    private static void recurrenceNull() {
        Edges.says(38, "NULL");
        Edges.refused("recurrence(3)", States::busy, x -> x.recurrence(3), NULL);
        Edges.refused("ahead of NOT: K 4", States::fourLetters, x -> x.recurrence(3), NULL);
        Edges.refused("what had BLANKS", EdgesOfReadings::lostBlanks, x -> x.recurrence(1), NULL);
    }

    private static void recurrenceNot() {
        Edges.says(38, "NOT: K is 4, or it has BLANKS.");
        Edges.refused("K 4", States::fourLetters, x -> x.recurrence(0), NOT);
        Edges.refused("K 4, no items", States::fourLetters, x -> x.recurrence(2), NOT);
        Edges.refused("K 4, BLANKS", States::fourLetters, x -> x.recurrence(1), NOT);
        Edges.refused("BLANKS", States::busy, x -> x.recurrence(1), NOT);
        due("no items, no BLANKS", States.busy().recurrence(2), 0);
        for (int at = 0; at < 3; at++) {
            WordWheel x = States.written(3, 2, "111");
            due("no BLANKS", x.recurrence(0), 1);
            x.put(0, 0, at, 3);
            due("K, at " + at, x.recurrence(0), NOT);
            x.put(0, 0, at, -1);
            due("-1, at " + at, x.recurrence(0), NOT);
            x.wheel(4, 2);
            x.put(0, 0, at, 3);
            due("K 4", x.recurrence(0), NOT);
            x.wheel(5, 2);
            due("K 5, and 3 a LETTER", x.recurrence(0) > 0 ? 1 : 0, 1);
        }
    }

    private static void coefficient() {
        Edges.says(39, "C j (from 1) of the latest recurrence() that was told.");
        WordWheel x = States.written(5, 1, "0112303314");
        x.recurrence(0);
        due("C 1", x.coefficient(1), 1);
        due("C 2, the last", x.coefficient(2), 1);
        States.write(x, 0, 0, "13421");
        due("a later one", x.recurrence(0), 1);
        due("C 1", x.coefficient(1), 3);
        due("none behind", x.coefficient(2), BAD);
        States.write(x, 1, 0, "9");
        due("a BLANK", x.recurrence(1), NOT);
        due("a LOST one", x.recurrence(2), NULL);
        due("no TAPE", x.recurrence(4), BAD);
        x.wheel(4, 1);
        due("K 4", x.recurrence(0), NOT);
        x.wheel(2, 3);
        due("another TAPE, another wheel", x.lose(0), 5);
        due("C 1 still", x.coefficient(1), 3);
        x.tape(0, 0, 3);
        due("all are 0: told, of length 0", x.recurrence(0), 0);
        due("no C 1", x.coefficient(1), BAD);
    }

    /** A later recurrence has nothing of an earlier one, though that was longer and had other LETTERS. */
    private static void coefficientOfLater() {
        Edges.says(39, "of the latest recurrence() that was told.");
        String[] rows = {"1243021340", "0001000200", "4", "10", "2104", "", "33", "0240130214", "001", "1111"};
        for (String earlier : rows) {
            for (String later : rows) {
                WordWheel x = States.written(5, 1, earlier);
                x.recurrence(0);
                States.write(x, 0, 0, later);
                WordWheel alone = States.written(5, 1, later);
                due(later + " behind " + earlier, x.recurrence(0), alone.recurrence(0));
                for (int j = 0; j <= later.length() + 1; j++) {
                    due("C " + j + " of " + later + " behind " + earlier, x.coefficient(j), alone.coefficient(j));
                }
            }
        }
    }

    private static void coefficientRefuses() {
        Edges.says(39, "BAD.");
        int last = States.busy().recurrence(0);
        due("the first is taken", States.busy().coefficient(1) >= 0 ? 1 : 0, 1);
        due("the last is taken", States.busy().coefficient(last) >= 0 ? 1 : 0, 1);
        for (int j : new int[] {0, -1, last + 1, 200, 201, LOW, HIGH}) {
            Edges.refused("coefficient(" + j + ") of " + last, States::busy, x -> x.coefficient(j), BAD);
        }
        Edges.refused("before any", States::fresh, x -> x.coefficient(1), BAD);
        Edges.refused("before any", States::fresh, x -> x.coefficient(0), BAD);
        WordWheel x = States.written(3, 1, "1");
        x.tape(0, 0, 200);
        x.put(0, 0, 199, 2);
        due("as long as the TAPE", x.recurrence(0), 200);
        due("the last of 200", x.coefficient(200), 0);
        due("one more", x.coefficient(201), BAD);
        due("one less than the first", x.coefficient(0), BAD);
    }

    private static void count() {
        Edges.says(40, "0 K, 1 N, 2 ALL, 3 EXCHANGES");
        WordWheel x = States.busy();
        due("count(0)", x.count(0), 3);
        due("count(1)", x.count(1), 3);
        due("count(2)", x.count(2), 27);
        due("count(3)", x.count(3), 3);
        x = new WordWheel();
        due("count(0) at first", x.count(0), 2);
        due("count(1) at first", x.count(1), 3);
        due("count(2) at first", x.count(2), 8);
        due("count(3) at first", x.count(3), 0);
        due("count(3), the most", States.full().count(3), 400);
        x.wheel(2, 14);
        due("count(1), the most", x.count(1), 14);
        x.wheel(3, 9);
        due("count(2), the most", x.count(2), 19683);
    }

    private static void countOfRounds() {
        Edges.says(40, "4 which ROUND there is (0, 1, 2; NONE)");
        WordWheel x = new WordWheel();
        due("at first", x.count(4), NONE);
        x.round(2);
        due("behind a NOT", x.count(4), NONE);
        x.round(0);
        due("LEAST", x.count(4), 0);
        x.round(1);
        due("GREEDY", x.count(4), 1);
        x.join();
        x.round(2);
        due("CYCLE", x.count(4), 2);
        x.back();
        due("still, behind back()", x.count(4), 2);
        x.round(3);
        due("behind BAD", x.count(4), 2);
        x.wheel(2, 3);
        due("behind wheel()", x.count(4), NONE);
    }

    private static void countOfFindings() {
        Edges.says(40, "5 the number of the latest FINDING (0 before any).");
        WordWheel x = new WordWheel();
        due("before any", x.count(5), 0);
        x.lose(4);
        x.place(0);
        due("BAD and NOT are none", x.count(5), 0);
        x.tape(0, 0, -1);
        due("SIZE", x.count(5), 5);
        x.lose(0);
        due("NULL", x.count(5), 1);
        x.tape(0, 0, 1);
        due("a call that is taken leaves it", x.count(5), 1);
        x.put(0, 0, 1, 0);
        due("INDEX", x.count(5), 2);
        x.put(0, 1, 0, 0);
        due("CAST", x.count(5), 3);
        x.tape(1, 1, 1);
        x.copy(0, 0, 1, 0, 1);
        due("STORE", x.count(5), 4);
        x.get(0, 0, 1);
        due("INDEX by get()", x.count(5), 2);
        x.wheel(3, 3);
        due("behind wheel()", x.count(5), 2);
    }

    private static void countRefuses() {
        Edges.says(40, "BAD.");
        due("count(0) is taken", States.busy().count(0), 3);
        due("count(5) is taken", States.busy().count(5), 5);
        for (int what : new int[] {-1, 6, LOW, HIGH}) {
            Edges.refused("count(" + what + ")", States::busy, x -> x.count(what), BAD);
        }
    }

    private static void digest() {
        Edges.says(41, "h is 17; h becomes 31 h and each of: count() 0 to 4, where each WORD leads, the LETTERS of THE ROUND");
        WordWheel x = new WordWheel();
        x.wheel(2, 1);
        due("without a ROUND", x.digest(), after(2, 1, 2, 0, -1, 0, 1));
        x.round(0);
        due("with one", x.digest(), after(2, 1, 2, 0, 0, 0, 1, 0, 1));
        x.round(1);
        due("of another kind, with the same LETTERS", x.digest(), after(2, 1, 2, 0, 1, 0, 1, 0, 1));
        x.exchange(0, 1);
        due("with an EXCHANGE", x.digest(), after(2, 1, 2, 1, 1, 1, 0, 0, 1));
        x.exchange(0, 1);
        due("with two", x.digest(), after(2, 1, 2, 2, 1, 0, 1, 0, 1));
        x.lose(0);
        due("not count(5)", x.digest(), after(2, 1, 2, 2, 1, 0, 1, 0, 1));
        x.factor(0, 0);
        due("not RIGHT", x.digest(), after(2, 1, 2, 0, 1, 0, 0, 0, 1));
        x.wheel(2, 1);
        due("behind wheel()", x.digest(), after(2, 1, 2, 0, -1, 0, 1));
    }

    private static long after(int... numbers) {
        BigInteger h = BigInteger.valueOf(17);
        for (int number : numbers) {
            h = h.multiply(BigInteger.valueOf(31)).add(BigInteger.valueOf(number));
        }
        return h.longValueExact();
    }

    private static void digestWraps() {
        Edges.says(41, "as longs that wrap.");
        int[] numbers = {5, 3, 125, 0, -1};
        BigInteger h = BigInteger.valueOf(17);
        for (int number : numbers) {
            h = h.multiply(BigInteger.valueOf(31)).add(BigInteger.valueOf(number));
        }
        WordWheel x = new WordWheel();
        x.wheel(5, 3);
        for (int w = 0; w < 125; w++) {
            h = h.multiply(BigInteger.valueOf(31)).add(BigInteger.valueOf(x.go(w)));
        }
        due("more than a long has, its lowest 64 bits", x.digest(), h.longValue());
        due("it is more than a long has", h.bitLength() > 600 ? 1 : 0, 1);
    }
}
