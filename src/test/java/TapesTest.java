/** Promises 27 to 41, with answers written out. */
public final class TapesTest {
    private static final int NONE = -1, BAD = -2, NOT = -3;
    private static final int NULL = -11, INDEX = -12, CAST = -13, STORE = -14, SIZE = -15;
    private static final int LOW = Integer.MIN_VALUE, HIGH = Integer.MAX_VALUE;

    public static void main(String[] args) {
        tape();
        lose();
        putAndGet();
        putRefuses();
        getRefuses();
        copy();
        copyRefuses();
        print();
        printRefuses();
        find();
        findRound();
        findRefuses();
        found();
        twice();
        parts();
        partStays();
        recurrence();
        leastNumbers();
        longestRecurrence();
        recurrenceRefuses();
        coefficientStays();
        count();
        digest();
        Due.end();
    }

    private static void due(String call, long got, long want) {
        Due.due(call, got, want);
    }

    /** Tape t becomes a row of bytes with these figures. */
    private static void write(WordWheel x, int t, String figures) {
        x.tape(t, 0, figures.length());
        for (int i = 0; i < figures.length(); i++) {
            x.put(t, 0, i, figures.charAt(i) - '0');
        }
    }

    private static void tape() {
        WordWheel x = new WordWheel();
        due("27: none", x.tape(0, 0, 0), 0);
        due("27: the most", x.tape(3, 2, 200), 200);
        due("27: ordinary", x.tape(1, 1, 7), 7);
        x.put(1, 1, 6, 5);
        due("27: 0 at first", x.get(1, 1, 0), 0);
        due("27: the last", x.get(1, 1, 6), 5);
        due("27: a new row", x.tape(1, 1, 7), 7);
        due("27: 0 again", x.get(1, 1, 6), 0);
        due("27: another form", x.tape(1, 2, 3), 3);
        due("27: its form", x.put(1, 2, 2, 1), 1);
        due("27: its items", x.put(1, 2, 3, 1), INDEX);
        int[][] bad = {
            {-1, 0, 1}, {4, 0, 1}, {0, -1, 1}, {0, 3, 1}, {0, 0, 201}, {0, 0, HIGH}, {HIGH, 0, 1}, {LOW, 0, 1},
            {0, HIGH, 1}, {0, LOW, 1}, {4, 0, -1}, {0, 3, -1}
        };
        int was = x.count(5);
        for (int[] b : bad) {
            due("27: tape " + b[0] + " " + b[1] + " " + b[2], x.tape(b[0], b[1], b[2]), BAD);
        }
        due("27: bad is no finding", x.count(5), was);
        due("27: below 0", x.tape(1, 0, -1), SIZE);
        due("27: the finding", x.count(5), 5);
        due("27: below 0", x.tape(1, 0, LOW), SIZE);
        due("27: it stays", x.get(1, 2, 2), 1);
    }

    private static void lose() {
        WordWheel x = new WordWheel();
        due("28: lost at first", x.lose(2), NULL);
        due("28: the finding", x.count(5), 1);
        x.tape(2, 1, 9);
        due("28: it had", x.lose(2), 9);
        due("28: lost", x.lose(2), NULL);
        due("28: lost", x.put(2, 1, 0, 0), NULL);
        x.tape(0, 0, 0);
        due("28: it had none", x.lose(0), 0);
        due("28: lost", x.lose(0), NULL);
        for (int t : new int[] {-1, 4, HIGH, LOW}) {
            due("28: lose " + t, x.lose(t), BAD);
        }
    }

    private static void putAndGet() {
        WordWheel x = new WordWheel();
        x.tape(0, 0, 3);
        x.tape(1, 1, 3);
        x.tape(2, 2, 3);
        // what is put, and what it is as a byte, a char, a short
        int[][] rows = {
            {5, 5, 5, 5}, {-1, -1, 65535, -1}, {128, -128, 128, 128}, {256, 0, 256, 256}, {32768, 0, 32768, -32768},
            {65536, 0, 0, 0}, {HIGH, -1, 65535, -1}, {LOW, 0, 0, 0}, {70000, 112, 4464, 4464}, {-129, 127, 65407, -129}
        };
        for (int[] row : rows) {
            for (int form = 0; form < 3; form++) {
                due("29: put " + row[0], x.put(form, form, 1, row[0]), 1);
                due("30: get " + row[0] + " form " + form, x.get(form, form, 1), row[1 + form]);
                due("30: the one ahead", x.get(form, form, 0), 0);
                due("30: the one behind", x.get(form, form, 2), 0);
            }
        }
        due("29: no finding", x.count(5), 0);
    }

    private static void putRefuses() {
        WordWheel x = new WordWheel();
        x.tape(0, 1, 2);
        due("29: no tape", x.put(4, 0, 0, 0), BAD);
        due("29: no tape", x.put(-1, 0, 0, 0), BAD);
        due("29: no form", x.put(0, 3, 0, 0), BAD);
        due("29: no form", x.put(0, -1, 0, 0), BAD);
        due("29: no form, lost", x.put(1, 3, 0, 0), BAD);
        due("29: no finding", x.count(5), 0);
        due("29: index", x.put(0, 1, 2, 0), INDEX);
        due("29: index", x.count(5), 2);
        due("29: index", x.put(0, 1, -1, 0), INDEX);
        due("29: index", x.put(0, 1, HIGH, 0), INDEX);
        due("29: index", x.put(0, 1, LOW, 0), INDEX);
        due("29: cast", x.put(0, 0, 0, 0), CAST);
        due("29: cast", x.count(5), 3);
        due("29: cast comes ahead", x.put(0, 2, 2, 0), CAST);
        due("29: null", x.put(3, 2, -1, 0), NULL);
        due("29: null", x.count(5), 1);
    }

    private static void getRefuses() {
        WordWheel x = new WordWheel();
        x.tape(0, 1, 2);
        due("30: no tape", x.get(4, 0, 0), LOW);
        due("30: no tape", x.get(-1, 0, 0), LOW);
        due("30: no form", x.get(0, 3, 0), LOW);
        due("30: no form", x.get(0, -1, 0), LOW);
        due("30: no finding", x.count(5), 0);
        due("30: index", x.get(0, 1, 2), LOW);
        due("30: index", x.count(5), 2);
        due("30: cast comes ahead", x.get(0, 2, 2), LOW);
        due("30: cast", x.count(5), 3);
        due("30: null", x.get(3, 2, -1), LOW);
        due("30: null", x.count(5), 1);
        due("30: index", x.get(0, 1, -1), LOW);
        due("30: index", x.count(5), 2);
        due("30: no form", x.get(3, 3, 0), LOW);
        due("30: bad is no finding", x.count(5), 2);
        due("30: all well", x.get(0, 1, 1), 0);
        due("30: the latest stays", x.count(5), 2);
    }

    private static void dueItems(String what, WordWheel x, int t, String figures) {
        for (int i = 0; i < figures.length(); i++) {
            due(what + ": item " + i, x.get(t, 0, i), figures.charAt(i) - '0');
        }
    }

    private static void copy() {
        WordWheel x = new WordWheel();
        write(x, 0, "123456");
        write(x, 1, "0000");
        due("31: copy", x.copy(0, 2, 1, 1, 3), 1);
        dueItems("31: copied", x, 1, "0345");
        dueItems("31: stays", x, 0, "123456");
        due("31: upward", x.copy(0, 0, 0, 2, 4), 1);
        dueItems("31: as they were", x, 0, "121234");
        write(x, 0, "123456");
        due("31: downward", x.copy(0, 2, 0, 0, 4), 1);
        dueItems("31: as they were", x, 0, "345656");
        due("31: none, at the end", x.copy(0, 6, 1, 4, 0), 1);
        due("31: all", x.copy(1, 0, 0, 2, 4), 1);
        dueItems("31: all", x, 0, "340345");
    }

    private static void copyRefuses() {
        WordWheel x = new WordWheel();
        x.tape(0, 0, 4);
        x.tape(1, 2, 4);
        x.tape(3, 0, 2);
        due("31: no tape", x.copy(4, 0, 0, 0, 0), BAD);
        due("31: no tape", x.copy(0, 0, -1, 0, 0), BAD);
        due("31: no tape, lost", x.copy(2, 0, 4, 0, 0), BAD);
        due("31: no finding", x.count(5), 0);
        due("31: t lost", x.copy(2, 0, 0, 0, 0), NULL);
        due("31: u lost", x.copy(0, 0, 2, 0, 0), NULL);
        due("31: null", x.count(5), 1);
        due("31: null comes ahead", x.copy(2, -1, 1, 0, 9), NULL);
        due("31: unlike forms", x.copy(0, 0, 1, 0, 1), STORE);
        due("31: store", x.count(5), 4);
        due("31: store comes ahead", x.copy(0, -1, 1, 0, 1), STORE);
        due("31: store of none", x.copy(1, 0, 0, 0, 0), STORE);
        int[][] bad = {
            {-1, 0, 1}, {0, -1, 1}, {0, 0, -1}, {3, 0, 2}, {0, 1, 2}, {5, 0, 0}, {0, 3, 0}, {0, 0, HIGH}, {HIGH, 0, 1},
            {0, HIGH, 1}, {HIGH, 0, HIGH}, {LOW, 0, 0}, {0, LOW, 0}, {0, 0, LOW}, {1, 1, HIGH}, {4, 0, 1}, {0, 0, 3}
        };
        for (int[] b : bad) {
            due("31: copy " + b[0] + " " + b[1] + " " + b[2], x.copy(0, b[0], 3, b[1], b[2]), INDEX);
        }
        due("31: index", x.count(5), 2);
    }

    private static void print() {
        WordWheel x = new WordWheel();
        x.round(0);
        write(x, 0, "222222222222222222222222");
        due("32: print", x.print(0, 1, 6, 4), 4);
        dueItems("32: 00010111 from 6 on", x, 0, "211002");
        due("32: round and round", x.print(0, 2, 7, 20), 20);
        dueItems("32: round and round", x, 0, "211000101110001011100022");
        due("32: none", x.print(0, 24, 0, 0), 0);
        due("32: the last item", x.print(0, 23, 3, 1), 1);
        due("32: the last item", x.get(0, 0, 23), 1);
        x.tape(2, 2, 2);
        x.tape(1, 1, 2);
        due("32: chars", x.print(1, 0, 3, 2), 2);
        due("32: chars", x.get(1, 1, 0), 1);
        due("32: shorts", x.print(2, 0, 3, 2), 2);
        due("32: shorts", x.get(2, 2, 0), 1);
    }

    private static void printRefuses() {
        WordWheel x = new WordWheel();
        x.tape(0, 0, 4);
        due("32: no round", x.print(0, 0, 0, 1), NOT);
        due("32: no round, lost", x.print(1, 0, 0, 1), NOT);
        due("32: no round, no place", x.print(0, 0, 8, 1), BAD);
        due("32: no finding", x.count(5), 0);
        x.round(0);
        due("32: lost", x.print(1, 0, 0, 1), NULL);
        due("32: null", x.count(5), 1);
        due("32: no tape", x.print(4, 0, 0, 1), BAD);
        due("32: no tape", x.print(-1, 0, 0, 1), BAD);
        due("32: no place", x.print(0, 0, 8, 1), BAD);
        due("32: no place", x.print(0, 0, -1, 1), BAD);
        due("32: below 0", x.print(0, 0, 0, -1), BAD);
        due("32: below 0", x.print(1, 0, 0, LOW), BAD);
        due("32: bad is no finding", x.count(5), 1);
        due("32: not so many", x.print(0, 1, 0, 4), INDEX);
        due("32: index", x.count(5), 2);
        due("32: below 0", x.print(0, -1, 0, 2), INDEX);
        due("32: none behind the end", x.print(0, 5, 0, 0), INDEX);
        due("32: most", x.print(0, 1, 0, HIGH), INDEX);
        due("32: most", x.print(0, HIGH, 0, HIGH), INDEX);
        dueItems("32: nothing changed", x, 0, "0000");
    }

    private static void find() {
        WordWheel x = new WordWheel();
        x.wheel(2, 4);
        x.round(0);
        // 0000100110101111
        write(x, 0, "91019");
        due("33: 101", x.find(0, 1, 3, 0), 2);
        due("34: first", x.found(), 8);
        due("33: 101 with a blank at each end", x.find(0, 0, 5, 0), 2);
        due("34: one ahead", x.found(), 7);
        due("33: only a blank", x.find(0, 0, 1, 0), 16);
        due("34: the first", x.found(), 0);
        write(x, 0, "1111");
        due("33: no slips", x.find(0, 0, 4, 0), 1);
        due("34: found", x.found(), 12);
        due("33: at most 1 slip", x.find(0, 0, 4, 1), 5);
        due("34: found", x.found(), 7);
        due("33: at most 3 slips", x.find(0, 0, 4, 3), 15);
        due("34: found", x.found(), 1);
        due("33: as many slips as items", x.find(0, 0, 4, 4), 16);
        due("33: more", x.find(0, 0, 4, 40), 16);
        write(x, 0, "00000");
        due("33: nowhere", x.find(0, 0, 5, 0), 0);
        x.tape(1, 1, 3);
        x.put(1, 1, 1, 65535);
        x.put(1, 1, 0, 1);
        x.put(1, 1, 2, 1);
        due("33: chars, 1 ? 1", x.find(1, 0, 3, 0), 4);
        x.wheel(3, 2);
        x.round(0);
        // 001021122: 2 is a LETTER now
        write(x, 0, "22");
        due("33: 22", x.find(0, 0, 2, 0), 1);
        due("33: 22 with a slip", x.find(0, 0, 2, 1), 5);
        due("34: found", x.found(), 3);
    }

    private static void findRound() {
        WordWheel x = new WordWheel();
        x.wheel(2, 1);
        x.round(0);
        x.tape(0, 0, 40);
        x.print(0, 0, 1, 40);
        due("33: 40 items round and round", x.find(0, 0, 40, 0), 1);
        due("34: from 1 on", x.found(), 1);
        due("33: 39 slips are not enough", x.find(0, 0, 40, 39), 1);
        due("33: 40 slips are", x.find(0, 0, 40, 40), 2);
        due("34: from 0 on", x.found(), 0);
        x.wheel(2, 3);
        x.round(1);
        x.tape(1, 2, 200);
        x.print(1, 160, 5, 40);
        due("33: the last 40 items", x.find(1, 160, 40, 0), 1);
        due("34: from 5 on", x.found(), 5);
    }

    private static void findRefuses() {
        WordWheel x = new WordWheel();
        x.tape(0, 0, 50);
        due("33: no round", x.find(0, 0, 1, 0), NOT);
        due("33: no round, lost", x.find(1, 0, 1, 0), NOT);
        due("33: bad comes ahead", x.find(0, 0, 0, 0), BAD);
        x.round(0);
        int[][] bad = {
            {-1, 1, 0}, {4, 1, 0}, {0, 0, 0}, {0, 41, 0}, {0, -1, 0}, {0, 1, -1}, {0, 1, 41}, {1, 41, 0}, {0, HIGH, 0},
            {0, LOW, 0}, {0, 1, HIGH}, {0, 1, LOW}, {HIGH, 1, 0}, {LOW, 1, 0}
        };
        for (int[] b : bad) {
            due("33: find " + b[0] + " " + b[1] + " " + b[2], x.find(b[0], 0, b[1], b[2]), BAD);
        }
        due("33: no finding", x.count(5), 0);
        due("33: lost", x.find(1, 0, 1, 0), NULL);
        due("33: null", x.count(5), 1);
        due("33: not so many", x.find(0, 11, 40, 0), INDEX);
        due("33: index", x.count(5), 2);
        due("33: below 0", x.find(0, -1, 2, 0), INDEX);
        due("33: most", x.find(0, HIGH, 40, 0), INDEX);
        due("33: just so many", x.find(0, 10, 40, 40), 8);
    }

    private static void found() {
        WordWheel x = new WordWheel();
        due("34: none yet", x.found(), NONE);
        x.round(0);
        write(x, 0, "1110");
        write(x, 1, "0000");
        due("33: nowhere", x.find(1, 0, 4, 0), 0);
        due("34: none yet", x.found(), NONE);
        due("33: 1110", x.find(0, 0, 4, 0), 1);
        due("34: found", x.found(), 5);
        x.find(1, 0, 4, 0);
        due("34: an answer of 0 changes nothing", x.found(), 5);
        x.find(0, 0, 41, 0);
        x.find(3, 0, 1, 0);
        due("34: nor does a refusal", x.found(), 5);
        x.round(1);
        due("34: nor does round()", x.found(), 5);
        x.wheel(2, 20);
        due("34: nor a wheel() that is refused", x.found(), 5);
        x.wheel(2, 3);
        due("34: none behind wheel()", x.found(), NONE);
    }

    private static void twice() {
        WordWheel x = new WordWheel();
        due("35: lost", x.twice(0), NULL);
        due("35: null", x.count(5), 1);
        due("35: no tape", x.twice(4), BAD);
        due("35: no tape", x.twice(-1), BAD);
        x.tape(0, 0, 0);
        due("35: no items", x.twice(0), NOT);
        write(x, 0, "00010111");
        due("35: each word once", x.twice(0), NONE);
        write(x, 0, "0001011100");
        due("35: 000 again, behind the last", x.twice(0), 8);
        write(x, 0, "0010");
        due("35: 001, 010, 100, 000", x.twice(0), NONE);
        write(x, 0, "0101");
        due("35: 010 again", x.twice(0), 2);
        write(x, 0, "0");
        due("35: one item", x.twice(0), NONE);
        write(x, 0, "00");
        due("35: two alike", x.twice(0), 1);
        write(x, 0, "01");
        due("35: fewer items than LETTERS", x.twice(0), NONE);
        write(x, 0, "012");
        due("35: a blank", x.twice(0), NOT);
        x.wheel(3, 1);
        due("35: no blank now", x.twice(0), NONE);
        write(x, 0, "0121");
        due("35: 1 again", x.twice(0), 3);
        x.put(0, 0, 0, -1);
        due("35: below 0", x.twice(0), NOT);
    }

    private static void dueParts(WordWheel x, String figures, int... begins) {
        write(x, 0, figures);
        due("36: parts of " + figures, x.parts(0), begins.length);
        for (int k = 0; k < begins.length; k++) {
            due("37: part " + k + " of " + figures, x.part(k), begins[k]);
        }
        due("37: none behind", x.part(begins.length), BAD);
    }

    private static void parts() {
        WordWheel x = new WordWheel();
        x.wheel(3, 2);
        dueParts(x, "0", 0);
        dueParts(x, "01", 0);
        dueParts(x, "10", 0, 1);
        dueParts(x, "000", 0, 1, 2);
        dueParts(x, "0101", 0, 2);
        dueParts(x, "01011", 0);
        dueParts(x, "0100101", 0, 2);
        dueParts(x, "2102010", 0, 1, 2, 4, 6);
        dueParts(x, "0010012", 0);
        dueParts(x, "001001", 0, 3);
        dueParts(x, "0010010", 0, 3, 6);
        dueParts(x, "12112", 0, 2);
        due("37: below 0", x.part(-1), BAD);
        due("37: most", x.part(HIGH), BAD);
        due("37: least", x.part(LOW), BAD);
        x.tape(1, 2, 200);
        due("36: 200 parts", x.parts(1), 200);
        due("37: the last", x.part(199), 199);
        due("37: none behind", x.part(200), BAD);
    }

    private static void partStays() {
        WordWheel x = new WordWheel();
        due("36: no tape", x.parts(4), BAD);
        due("36: no tape", x.parts(-1), BAD);
        due("36: lost", x.parts(0), NULL);
        due("36: null", x.count(5), 1);
        dueParts(x, "1100", 0, 1, 2, 3);
        write(x, 1, "012");
        due("36: a blank", x.parts(1), NOT);
        due("37: stays", x.part(3), 3);
        x.tape(1, 0, 0);
        due("36: no items, none", x.parts(1), 0);
        due("37: stays", x.part(3), 3);
        x.parts(3);
        due("37: stays", x.part(3), 3);
        x.wheel(3, 3);
        x.lose(0);
        due("37: stays behind wheel()", x.part(3), 3);
    }

    private static void dueRecurrence(WordWheel x, String figures, int... numbers) {
        write(x, 0, figures);
        due("38: recurrence of " + figures, x.recurrence(0), numbers.length);
        for (int j = 1; j <= numbers.length; j++) {
            due("39: coefficient " + j + " of " + figures, x.coefficient(j), numbers[j - 1]);
        }
        due("39: none ahead", x.coefficient(0), BAD);
        due("39: none behind", x.coefficient(numbers.length + 1), BAD);
    }

    private static void recurrence() {
        WordWheel x = new WordWheel();
        dueRecurrence(x, "");
        dueRecurrence(x, "0000");
        dueRecurrence(x, "1111", 1);
        dueRecurrence(x, "01010101", 0, 1);
        dueRecurrence(x, "011011011", 1, 1);
        dueRecurrence(x, "000100110101111", 0, 0, 1, 1);
        x.wheel(3, 2);
        dueRecurrence(x, "12121212", 2);
        dueRecurrence(x, "0112022101120221", 1, 1);
        x.wheel(5, 2);
        dueRecurrence(x, "13421342", 3);
        dueRecurrence(x, "011230331404432", 1, 1);
        due("39: least", x.coefficient(LOW), BAD);
        due("39: most", x.coefficient(HIGH), BAD);
    }

    /** Where more than one is as short, the first numbers are the least. */
    private static void leastNumbers() {
        WordWheel x = new WordWheel();
        dueRecurrence(x, "1", 0);
        dueRecurrence(x, "10", 0);
        dueRecurrence(x, "0001", 0, 0, 0, 0);
        dueRecurrence(x, "00010", 0, 0, 0, 0);
        dueRecurrence(x, "00011", 1, 0, 0, 0);
        dueRecurrence(x, "110", 0, 0);
        dueRecurrence(x, "0110", 1, 1);
        x.wheel(5, 1);
        dueRecurrence(x, "0024", 2, 0, 0);
        dueRecurrence(x, "123", 0, 3);
    }

    private static void longestRecurrence() {
        WordWheel x = new WordWheel();
        x.wheel(3, 1);
        x.tape(0, 0, 200);
        due("38: all are 0", x.recurrence(0), 0);
        x.put(0, 0, 199, 2);
        due("38: as long as the tape", x.recurrence(0), 200);
        for (int j = 1; j <= 200; j++) {
            due("39: coefficient " + j, x.coefficient(j), 0);
        }
        due("39: none behind", x.coefficient(201), BAD);
        x.put(0, 0, 198, 1);
        due("38: one less", x.recurrence(0), 199);
        due("39: first", x.coefficient(1), 2);
        due("39: last", x.coefficient(199), 0);
        due("39: none behind", x.coefficient(200), BAD);
    }

    private static void recurrenceRefuses() {
        WordWheel x = new WordWheel();
        due("38: no tape", x.recurrence(4), BAD);
        due("38: no tape", x.recurrence(-1), BAD);
        due("38: lost", x.recurrence(0), NULL);
        due("38: null", x.count(5), 1);
        write(x, 0, "012");
        due("38: a blank", x.recurrence(0), NOT);
        x.wheel(4, 2);
        due("38: K is 4", x.recurrence(0), NOT);
        due("38: K is 4, no tape", x.recurrence(4), BAD);
        x.tape(1, 0, 0);
        due("38: K is 4, no items", x.recurrence(1), NOT);
        x.put(0, 0, 5, 0);
        due("38: K is 4, lost", x.recurrence(2), NULL);
        due("38: null", x.count(5), 1);
        x.wheel(3, 2);
        due("38: no blank now", x.recurrence(0), 2);
    }

    private static void coefficientStays() {
        WordWheel x = new WordWheel();
        due("39: none told", x.coefficient(1), BAD);
        x.wheel(5, 1);
        dueRecurrence(x, "13421342", 3);
        write(x, 1, "7");
        x.recurrence(1);
        x.recurrence(3);
        x.recurrence(4);
        x.lose(0);
        x.wheel(2, 3);
        due("39: stays", x.coefficient(1), 3);
        write(x, 0, "000");
        due("38: all are 0", x.recurrence(0), 0);
        due("39: it was told, and has none", x.coefficient(1), BAD);
    }

    private static void count() {
        WordWheel x = new WordWheel();
        x.wheel(3, 2);
        x.exchange(0, 3);
        x.exchange(1, 4);
        x.round(1);
        x.tape(0, 0, -5);
        int[] counts = {3, 2, 9, 2, 1, 5};
        for (int what = 0; what < 6; what++) {
            due("40: count " + what, x.count(what), counts[what]);
        }
        for (int what : new int[] {-1, 6, HIGH, LOW}) {
            due("40: count " + what, x.count(what), BAD);
        }
        x.round(0);
        due("40: least round", x.count(4), 0);
        x.join();
        x.round(2);
        due("40: cycle round", x.count(4), 2);
        x.wheel(3, 2);
        due("40: no round", x.count(4), -1);
        due("40: the finding stays", x.count(5), 5);
    }

    private static long after(long h, int... numbers) {
        for (int number : numbers) {
            h = 31 * h + number;
        }
        return h;
    }

    private static void digest() {
        WordWheel x = new WordWheel();
        due("41: at first", x.digest(), after(17, 2, 3, 8, 0, -1, 0, 2, 4, 6, 1, 3, 5, 7));
        x.wheel(2, 2);
        due("41: 2, 2", x.digest(), after(17, 2, 2, 4, 0, -1, 0, 2, 1, 3));
        x.round(1);
        due("41: with a round", x.digest(), after(17, 2, 2, 4, 0, 1, 0, 2, 1, 3, 0, 0, 1, 1));
        x.exchange(0, 2);
        x.sum(0);
        x.exchange(1, 3);
        due("41: with an exchange", x.digest(), after(17, 2, 2, 4, 1, 1, 0, 3, 1, 2, 0, 0, 1, 1));
        x.lose(0);
        x.tape(0, 0, 3);
        due("41: not of tapes", x.digest(), after(17, 2, 2, 4, 1, 1, 0, 3, 1, 2, 0, 0, 1, 1));
        x.factor(0, 0);
        due("41: not right", x.digest(), after(17, 2, 2, 4, 0, 1, 0, 2, 0, 2, 0, 0, 1, 1));
    }
}
