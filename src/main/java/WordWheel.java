import java.util.Arrays;

/**
 * A wheel of letters: words and their rings, registers and their cycles, rounds in which each word
 * stands just once, and tapes of letters. README.md tells how it is used.
 *
 * <p>All rows are made once, with the object, and used again: no call makes an object.
 */
public final class WordWheel {
    public static final int NONE = -1, BAD = -2, NOT = -3, FULL = -4;

    private static final int NULL = 1, INDEX = 2, CAST = 3, STORE = 4, SIZE = 5;
    private static final int BYTES = 0, CHARS = 1, SHORTS = 2;
    private static final int LEAST_ROUND = 0, GREEDY_ROUND = 1, CYCLE_ROUND = 2;

    private static final int MOST_LETTERS = 5;
    private static final int MOST_LENGTH = 14;
    private static final int MOST_WORDS = 20000;
    private static final int MOST_TURNS = 1000;
    private static final int MOST_EXCHANGES = 400;
    private static final int TAPES = 4;
    private static final int MOST_ITEMS = 200;
    private static final int MOST_SOUGHT = 40;
    private static final int MOST_SLIPS = 40;

    private final Words words;
    private final RingCounter counter;
    private final Register register;
    private final Round theRound;
    private final Tape[] tapes;
    private final Parting parting;
    private final Recurring recurring;
    private int firstFound;
    private int latestFinding;

    public WordWheel() {
        words = new Words();
        counter = new RingCounter(words);
        register = new Register(words);
        theRound = new Round(words);
        tapes = new Tape[TAPES];
        for (int t = 0; t < TAPES; t++) {
            tapes[t] = new Tape(words);
        }
        parting = new Parting();
        recurring = new Recurring();
        firstFound = NONE;
        latestFinding = 0;
    }

    public int wheel(int k, int n) {
        int all = Words.howMany(k, n);
        if (all == 0) {
            return BAD;
        }
        words.become(k, n);
        register.becomeTurning();
        theRound.drop();
        firstFound = NONE;
        return all;
    }

    // ---- words and rings

    public int turn(int word, int t) {
        if (!words.has(word) || t < 0 || t > MOST_TURNS) {
            return BAD;
        }
        return words.turned(word, t);
    }

    public int least(int word) {
        return words.has(word) ? words.leastOf(word) : BAD;
    }

    public int steps(int word) {
        return words.has(word) ? words.stepsToLeast(word) : BAD;
    }

    public int size(int word) {
        return words.has(word) ? words.ringSize(word) : BAD;
    }

    public int even(int word) {
        if (!words.has(word)) {
            return BAD;
        }
        int least = words.leastOf(word);
        return words.leastOf(words.backward(least)) == least ? 1 : 0;
    }

    public int rings() {
        return counter.ringsUpTo(words.all - 1);
    }

    public int ringOf(int word) {
        return words.has(word) ? counter.ringsUpTo(words.leastOf(word) - 1) : BAD;
    }

    public int ring(int r) {
        return r < 0 || r >= rings() ? BAD : counter.leastOfRing(r);
    }

    public int below(int word) {
        return words.has(word) ? counter.wordsUpTo(words.length, word - 1) : BAD;
    }

    public int content(int a, int b, int c, int d, int e) {
        return counter.takeAmounts(a, b, c, d, e) ? counter.ringsOfAmounts() : BAD;
    }

    // ---- the register

    public int factor(int i, int v) {
        if (i < 0 || i >= words.length || !words.isLetter(v)) {
            return BAD;
        }
        return register.changeFactor(i, v);
    }

    public int sum(int v) {
        return words.isLetter(v) ? register.changeSum(v) : BAD;
    }

    public int go(int word) {
        return words.has(word) ? register.leadOf(word) : BAD;
    }

    public int right() {
        return register.isRight() ? 1 : 0;
    }

    public int exchange(int one, int other) {
        if (!words.has(one) || !words.has(other) || !words.differInFirst(one, other)) {
            return BAD;
        }
        if (!register.isRight()) {
            return NOT;
        }
        return register.isFull() ? FULL : register.makeExchange(one, other);
    }

    public int back() {
        return register.exchanges == 0 ? NOT : register.takeBack();
    }

    public int cycles() {
        return register.isRight() ? register.howManyCycles() : NOT;
    }

    public int cycleOf(int word) {
        if (!register.isRight()) {
            return NOT;
        }
        return words.has(word) ? register.numberOfCycle(word) : BAD;
    }

    public int cycle(int c, int what) {
        if (!register.isRight()) {
            return NOT;
        }
        if (c < 0 || c >= register.howManyCycles()) {
            return BAD;
        }
        switch (what) {
            case 0:
                return register.leastOfCycle(c);
            case 1:
                return register.wordsOfCycle(c);
            default:
                return BAD;
        }
    }

    public int join() {
        return register.isRight() ? register.joinCycles() : NOT;
    }

    // ---- rounds

    public int round(int kind) {
        switch (kind) {
            case LEAST_ROUND:
                theRound.becomeLeast();
                return words.all;
            case GREEDY_ROUND:
                theRound.becomeGreedy();
                return words.all;
            case CYCLE_ROUND:
                if (!register.isRight() || register.howManyCycles() != 1) {
                    return NOT;
                }
                theRound.becomeCycle(register.leads());
                return words.all;
            default:
                return BAD;
        }
    }

    public int letter(int i) {
        return theRound.isPlace(i) ? theRound.letters[i] : BAD;
    }

    public int place(int word) {
        if (!words.has(word)) {
            return BAD;
        }
        return theRound.isThere() ? theRound.places[word] : NOT;
    }

    public int way(int from, int to) {
        if (!theRound.isPlace(from) || !theRound.isPlace(to)) {
            return BAD;
        }
        return from <= to ? to - from : to - from + words.all;
    }

    // ---- tapes

    public int tape(int t, int form, int n) {
        if (!isTape(t) || !isForm(form) || n > MOST_ITEMS) {
            return BAD;
        }
        if (n < 0) {
            return finding(SIZE);
        }
        tapes[t].begin(form, n);
        return n;
    }

    public int lose(int t) {
        if (!isTape(t)) {
            return BAD;
        }
        return tapes[t].isLost() ? finding(NULL) : tapes[t].drop();
    }

    public int put(int t, int form, int i, int v) {
        if (!isTape(t) || !isForm(form)) {
            return BAD;
        }
        int fault = faultOfItem(tapes[t], form, i);
        if (fault != 0) {
            return finding(fault);
        }
        tapes[t].items[i] = tapes[t].fitted(v);
        return 1;
    }

    public int get(int t, int form, int i) {
        if (!isTape(t) || !isForm(form)) {
            return Integer.MIN_VALUE;
        }
        int fault = faultOfItem(tapes[t], form, i);
        if (fault != 0) {
            latestFinding = fault;
            return Integer.MIN_VALUE;
        }
        return tapes[t].items[i];
    }

    public int copy(int t, int i, int u, int j, int n) {
        if (!isTape(t) || !isTape(u)) {
            return BAD;
        }
        Tape source = tapes[t];
        Tape target = tapes[u];
        if (source.isLost() || target.isLost()) {
            return finding(NULL);
        }
        if (source.form != target.form) {
            return finding(STORE);
        }
        if (!source.hasItems(i, n) || !target.hasItems(j, n)) {
            return finding(INDEX);
        }
        System.arraycopy(source.items, i, target.items, j, n);
        return 1;
    }

    public int print(int t, int i, int p, int n) {
        if (!isTape(t) || p < 0 || p >= words.all || n < 0) {
            return BAD;
        }
        if (!theRound.isThere()) {
            return NOT;
        }
        if (tapes[t].isLost()) {
            return finding(NULL);
        }
        if (!tapes[t].hasItems(i, n)) {
            return finding(INDEX);
        }
        theRound.writeLetters(p, n, tapes[t].items, i);
        return n;
    }

    public int find(int t, int i, int n, int slips) {
        if (!isTape(t) || n < 1 || n > MOST_SOUGHT || slips < 0 || slips > MOST_SLIPS) {
            return BAD;
        }
        if (!theRound.isThere()) {
            return NOT;
        }
        if (tapes[t].isLost()) {
            return finding(NULL);
        }
        if (!tapes[t].hasItems(i, n)) {
            return finding(INDEX);
        }
        int matches = theRound.countMatches(tapes[t].items, i, n, slips);
        if (matches > 0) {
            firstFound = theRound.firstMatch;
        }
        return matches;
    }

    public int found() {
        return firstFound;
    }

    public int twice(int t) {
        if (!isTape(t)) {
            return BAD;
        }
        Tape tape = tapes[t];
        if (tape.isLost()) {
            return finding(NULL);
        }
        return tape.length == 0 || tape.hasBlanks() ? NOT : tape.firstRepeated();
    }

    public int parts(int t) {
        if (!isTape(t)) {
            return BAD;
        }
        Tape tape = tapes[t];
        if (tape.isLost()) {
            return finding(NULL);
        }
        return tape.hasBlanks() ? NOT : parting.divide(tape.items, tape.length);
    }

    public int part(int k) {
        return k < 0 || k >= parting.told ? BAD : parting.begins[k];
    }

    public int recurrence(int t) {
        if (!isTape(t)) {
            return BAD;
        }
        Tape tape = tapes[t];
        if (tape.isLost()) {
            return finding(NULL);
        }
        // modulo 4 not every LETTER but 0 can divide
        if (words.letters == 4 || tape.hasBlanks()) {
            return NOT;
        }
        return recurring.learn(tape.items, tape.length, words.letters);
    }

    public int coefficient(int j) {
        return j < 1 || j > recurring.length ? BAD : recurring.coefficientAt(j);
    }

    public int count(int what) {
        switch (what) {
            case 0:
                return words.letters;
            case 1:
                return words.length;
            case 2:
                return words.all;
            case 3:
                return register.exchanges;
            case 4:
                return theRound.kind;
            case 5:
                return latestFinding;
            default:
                return BAD;
        }
    }

    public long digest() {
        long h = 17;
        for (int what = 0; what < 5; what++) {
            h = 31 * h + count(what);
        }
        int[] lead = register.leads();
        for (int w = 0; w < words.all; w++) {
            h = 31 * h + lead[w];
        }
        if (theRound.isThere()) {
            for (int i = 0; i < words.all; i++) {
                h = 31 * h + theRound.letters[i];
            }
        }
        return h;
    }

    private static boolean isTape(int t) {
        return t >= 0 && t < TAPES;
    }

    private static boolean isForm(int form) {
        return form >= BYTES && form <= SHORTS;
    }

    private int finding(int number) {
        latestFinding = number;
        return -10 - number;
    }

    private static int faultOfItem(Tape tape, int form, int i) {
        if (tape.isLost()) {
            return NULL;
        }
        if (tape.form != form) {
            return CAST;
        }
        return tape.hasItems(i, 1) ? 0 : INDEX;
    }

    /** The words there are now, as numbers, and what turning does to them. */
    private static final class Words {
        private final int[] power = new int[MOST_LENGTH + 1];
        private int letters;
        private int length;
        private int all;
        /** What a first LETTER of 1 counts for. */
        private int high;

        private Words() {
            become(2, 3);
        }

        /** How many words there would be; 0: there can be no such words. */
        private static int howMany(int k, int n) {
            if (k < 2 || k > MOST_LETTERS || n < 1 || n > MOST_LENGTH) {
                return 0;
            }
            int all = 1;
            for (int i = 0; i < n; i++) {
                all *= k;
                if (all > MOST_WORDS) {
                    return 0;
                }
            }
            return all;
        }

        private void become(int k, int n) {
            letters = k;
            length = n;
            power[0] = 1;
            for (int i = 1; i <= n; i++) {
                power[i] = power[i - 1] * k;
            }
            all = power[n];
            high = power[n - 1];
        }

        private boolean has(int word) {
            return word >= 0 && word < all;
        }

        private boolean isLetter(int v) {
            return v >= 0 && v < letters;
        }

        private boolean differInFirst(int one, int other) {
            return one != other && one % high == other % high;
        }

        private int turned(int word, int t) {
            int behind = t % length;
            int cut = power[length - behind];
            return word % cut * power[behind] + word / cut;
        }

        private int turnedOnce(int word) {
            return word % high * letters + word / high;
        }

        private int leastOf(int word) {
            int best = word;
            int at = word;
            for (int t = 1; t < length; t++) {
                at = turnedOnce(at);
                best = Math.min(best, at);
            }
            return best;
        }

        private int stepsToLeast(int word) {
            int best = word;
            int steps = 0;
            int at = word;
            for (int t = 1; t < length; t++) {
                at = turnedOnce(at);
                if (at < best) {
                    best = at;
                    steps = t;
                }
            }
            return steps;
        }

        private int ringSize(int word) {
            int at = turnedOnce(word);
            int size = 1;
            while (size < length && at != word) {
                at = turnedOnce(at);
                size++;
            }
            return size;
        }

        private int backward(int word) {
            int rest = word;
            int read = 0;
            for (int i = 0; i < length; i++) {
                read = read * letters + rest % letters;
                rest /= letters;
            }
            return read;
        }
    }

    /** Counts and ranks rings by formulas, without going through them. */
    private static final class RingCounter {
        /** At g, how many of 1 .. g share no divisor with g. */
        private static final int[] TOTIENT = {0, 1, 1, 2, 2, 4, 2, 6, 4, 6, 4, 10, 4, 12, 6};

        private final Words words;
        private final int[] row = new int[MOST_LENGTH];
        private final int[] pathways = new int[MOST_LENGTH + 1];
        private final int[] amounts = new int[MOST_LETTERS];

        private RingCounter(Words words) {
            this.words = words;
        }

        /**
         * How many rings have a LEAST of at most v. By Burnside's count it is the mean, over all
         * turnings, of how many of their words a turning leaves alone; such a word is a row of d
         * LETTERS again and again, d a divisor of N.
         */
        private int ringsUpTo(int v) {
            if (v < 0) {
                return 0;
            }
            int together = 0;
            for (int d = 1; d <= words.length; d++) {
                if (words.length % d == 0) {
                    together += TOTIENT[words.length / d] * wordsUpTo(d, greatestRepeated(d, v));
                }
            }
            return together / words.length;
        }

        /** The greatest row of d LETTERS that, again and again, makes a word of at most v. */
        private int greatestRepeated(int d, int v) {
            int begin = v / words.power[words.length - d];
            int repeated = 0;
            for (int i = 0; i < words.length; i += d) {
                repeated = repeated * words.power[d] + begin;
            }
            return repeated <= v ? begin : begin - 1;
        }

        /** The least v up to which there are r + 1 rings. */
        private int leastOfRing(int r) {
            int low = 0;
            int high = words.all - 1;
            for (int i = 0; i < MOST_WORDS && low < high; i++) {
                int middle = (low + high) / 2;
                if (ringsUpTo(middle) > r) {
                    high = middle;
                } else {
                    low = middle + 1;
                }
            }
            return low;
        }

        /** How many words of d LETTERS have a LEAST of at most v. */
        private int wordsUpTo(int d, int v) {
            if (v < 0) {
                return 0;
            }
            int rest = v;
            for (int i = d - 1; i >= 0; i--) {
                row[i] = rest % words.letters;
                rest /= words.letters;
            }
            lowerToBeginning(d);
            return words.power[d] - wordsAboveRow(d);
        }

        /**
         * Lowers the row to the greatest one that a LEAST can begin with. No LEAST is passed over,
         * so what is counted up to the row stays. The fault is further ahead each time.
         */
        private void lowerToBeginning(int d) {
            for (int tries = 0; tries < d; tries++) {
                int fault = firstFault(d);
                if (fault == d) {
                    return;
                }
                int last = fault - 1;
                while (last > 0 && row[last] == 0) {
                    last--;
                }
                row[last]--;
                Arrays.fill(row, last + 1, d, words.letters - 1);
            }
        }

        /** The first place up to which the row, read from within, is less than from its begin; or d. */
        private int firstFault(int d) {
            int period = 1;
            for (int i = 1; i < d; i++) {
                if (row[i] < row[i - period]) {
                    return i;
                }
                if (row[i] > row[i - period]) {
                    period = i + 1;
                }
            }
            return d;
        }

        /**
         * How many words of d LETTERS are, however turned, above the row. Read round and round such
         * a word falls, in one way, into pieces of some first LETTERS of the row and then a LETTER
         * greater than the row's next one. The piece over the word's begin can lie there in as many
         * ways as it has LETTERS; the others fill what is left (pathways).
         */
        private int wordsAboveRow(int d) {
            int above = 0;
            pathways[0] = 1;
            for (int filled = 1; filled <= d; filled++) {
                pathways[filled] = 0;
                for (int piece = 1; piece <= filled; piece++) {
                    pathways[filled] += greaterThan(piece - 1) * pathways[filled - piece];
                }
            }
            for (int piece = 1; piece <= d; piece++) {
                above += piece * greaterThan(piece - 1) * pathways[d - piece];
            }
            return above;
        }

        private int greaterThan(int i) {
            return words.letters - 1 - row[i];
        }

        /** Notes how many there shall be of each LETTER; false: no word has so many. */
        private boolean takeAmounts(int a, int b, int c, int d, int e) {
            amounts[0] = a;
            amounts[1] = b;
            amounts[2] = c;
            amounts[3] = d;
            amounts[4] = e;
            int together = 0;
            for (int v = 0; v < MOST_LETTERS; v++) {
                int most = words.isLetter(v) ? words.length : 0;
                if (amounts[v] < 0 || amounts[v] > most) {
                    return false;
                }
                together += amounts[v];
            }
            return together == words.length;
        }

        /** Burnside's count again, over the words with these amounts. */
        private int ringsOfAmounts() {
            long together = 0;
            for (int g = 1; g <= words.length; g++) {
                if (allDivisible(g)) {
                    together += TOTIENT[g] * arrangements(g);
                }
            }
            return (int) (together / words.length);
        }

        private boolean allDivisible(int g) {
            for (int v = 0; v < MOST_LETTERS; v++) {
                if (amounts[v] % g != 0) {
                    return false;
                }
            }
            return true;
        }

        /** In how many ways a g-th part of the amounts can stand in a row. */
        private long arrangements(int g) {
            long ways = 1;
            int placed = 0;
            for (int v = 0; v < MOST_LETTERS; v++) {
                for (int i = 1; i <= amounts[v] / g; i++) {
                    placed++;
                    ways = ways * placed / i;
                }
            }
            return ways;
        }
    }

    /** Where each word leads, and the cycles of that. What follows from it is worked out when asked. */
    private static final class Register {
        private final Words words;
        private final int[] factors = new int[MOST_LENGTH];
        private int addend;

        private final int[] ones = new int[MOST_EXCHANGES];
        private final int[] others = new int[MOST_EXCHANGES];
        private int exchanges;

        private final int[] lead = new int[MOST_WORDS];
        private boolean leadsStand;

        private final int[] cycleNumber = new int[MOST_WORDS];
        private final int[] leastWord = new int[MOST_WORDS];
        private boolean numbersStand;
        private int cycleCount;
        private boolean countStands;

        /** In joining: which cycle a cycle has become part of. */
        private final int[] joined = new int[MOST_EXCHANGES + 1];

        private Register(Words words) {
            this.words = words;
            becomeTurning();
        }

        private void becomeTurning() {
            Arrays.fill(factors, 0);
            factors[0] = 1;
            addend = 0;
            forgetExchanges();
        }

        private int changeFactor(int i, int v) {
            int was = factors[i];
            factors[i] = v;
            forgetExchanges();
            return was;
        }

        private int changeSum(int v) {
            int was = addend;
            addend = v;
            forgetExchanges();
            return was;
        }

        private void forgetExchanges() {
            exchanges = 0;
            leadsStand = false;
            numbersStand = false;
            countStands = false;
        }

        /**
         * Words that lead to one can differ in their first LETTER alone, and that counts F 0 times:
         * so all hangs on whether F 0 and K share a divisor. EXCHANGES change nothing in it.
         */
        private boolean isRight() {
            for (int d = 2; d <= words.letters; d++) {
                if (words.letters % d == 0 && factors[0] % d == 0) {
                    return false;
                }
            }
            return true;
        }

        private boolean isFull() {
            return exchanges >= MOST_EXCHANGES;
        }

        private int leadOf(int word) {
            return leads()[word];
        }

        private int[] leads() {
            if (!leadsStand) {
                fillComing();
                for (int w = 0; w < words.all; w++) {
                    lead[w] += w % words.high * words.letters;
                }
                leadsStand = true;
            }
            return lead;
        }

        /** Fills in the LETTER that comes for each word, the shorter endings of words first. */
        private void fillComing() {
            lead[0] = addend;
            for (int i = words.length - 1; i >= 0; i--) {
                int endings = words.power[words.length - 1 - i];
                for (int v = 1; v < words.letters; v++) {
                    int more = factors[i] * v;
                    for (int w = 0; w < endings; w++) {
                        lead[v * endings + w] = (lead[w] + more) % words.letters;
                    }
                }
            }
        }

        private void numberCycles() {
            if (numbersStand) {
                return;
            }
            leads();
            Arrays.fill(cycleNumber, 0, words.all, NONE);
            cycleCount = 0;
            for (int w = 0; w < words.all; w++) {
                if (cycleNumber[w] == NONE) {
                    leastWord[cycleCount] = w;
                    markCycle(w, cycleCount);
                    cycleCount++;
                }
            }
            numbersStand = true;
            countStands = true;
        }

        private void markCycle(int word, int number) {
            int at = word;
            for (int i = 0; i < words.all && cycleNumber[at] == NONE; i++) {
                cycleNumber[at] = number;
                at = lead[at];
            }
        }

        private int howManyCycles() {
            if (!countStands) {
                numberCycles();
            }
            return cycleCount;
        }

        private int numberOfCycle(int word) {
            numberCycles();
            return cycleNumber[word];
        }

        private int leastOfCycle(int c) {
            numberCycles();
            return leastWord[c];
        }

        private int wordsOfCycle(int c) {
            numberCycles();
            int first = leastWord[c];
            int at = lead[first];
            int together = 1;
            while (together < words.all && at != first) {
                at = lead[at];
                together++;
            }
            return together;
        }

        private int makeExchange(int one, int other) {
            cycleCount = countBehindExchange(one, other);
            swapLeads(one, other);
            noteExchange(one, other);
            return cycleCount;
        }

        private int takeBack() {
            exchanges--;
            cycleCount = countBehindExchange(ones[exchanges], others[exchanges]);
            swapLeads(ones[exchanges], others[exchanges]);
            return exchanges;
        }

        private void noteExchange(int one, int other) {
            ones[exchanges] = one;
            others[exchanges] = other;
            exchanges++;
        }

        private void swapLeads(int one, int other) {
            int was = lead[one];
            lead[one] = lead[other];
            lead[other] = was;
            numbersStand = false;
        }

        /** An exchange within a cycle splits it, one between two cycles makes them one. */
        private int countBehindExchange(int one, int other) {
            int count = howManyCycles();
            return inOneCycle(one, other) ? count + 1 : count - 1;
        }

        private boolean inOneCycle(int one, int other) {
            if (numbersStand) {
                return cycleNumber[one] == cycleNumber[other];
            }
            int at = lead[one];
            for (int i = 0; i < words.all && at != one && at != other; i++) {
                at = lead[at];
            }
            return at == other;
        }

        /**
         * Behind a joining, words that differ in their first LETTER are of one cycle, and so are all
         * words to which these lead; hence one cycle is left, and it is known ahead how many
         * EXCHANGES that takes.
         */
        private int joinCycles() {
            numberCycles();
            int needed = cycleCount - 1;
            if (exchanges + needed > MOST_EXCHANGES) {
                return FULL;
            }
            for (int c = 0; c < cycleCount; c++) {
                joined[c] = c;
            }
            int made = 0;
            for (int w = 0; w < words.all - words.high && made < needed; w++) {
                if (joinAt(w, w + words.high)) {
                    made++;
                }
            }
            cycleCount -= made;
            return made;
        }

        private boolean joinAt(int one, int other) {
            int kept = joined[cycleNumber[one]];
            int gone = joined[cycleNumber[other]];
            if (kept == gone) {
                return false;
            }
            for (int c = 0; c < cycleCount; c++) {
                if (joined[c] == gone) {
                    joined[c] = kept;
                }
            }
            swapLeads(one, other);
            noteExchange(one, other);
            return true;
        }
    }

    /** The ring of all words, and where in it each of them stands. */
    private static final class Round {
        private final Words words;
        private final byte[] letters = new byte[MOST_WORDS];
        private final int[] places = new int[MOST_WORDS];
        private int kind = NONE;

        private final int[] row = new int[MOST_LENGTH];

        /** At a LETTER, a bit for each item sought: whether the LETTER would be a slip there. */
        private final long[] slipsOf = new long[MOST_LETTERS];
        /** At a LETTER, a bit for each place that is looked at: whether the LETTER stands there. */
        private final long[] standsAt = new long[MOST_LETTERS];
        private int firstMatch = NONE;

        private Round(Words words) {
            this.words = words;
        }

        private void drop() {
            kind = NONE;
        }

        private boolean isThere() {
            return kind != NONE;
        }

        private boolean isPlace(int i) {
            return isThere() && words.has(i);
        }

        /**
         * Goes through the rows of at most N LETTERS that are less than all that they are turned to,
         * as in a dictionary: those whose length divides N are just the first SIZE LETTERS of the
         * LEASTS.
         */
        private void becomeLeast() {
            int filled = 0;
            int size = 1;
            row[0] = 0;
            for (int i = 0; i < 2 * MOST_WORDS && size > 0; i++) {
                if (words.length % size == 0) {
                    for (int j = 0; j < size && filled < words.all; j++) {
                        letters[filled] = (byte) row[j];
                        filled++;
                    }
                }
                size = nextRow(size);
            }
            kind = LEAST_ROUND;
            findPlaces();
        }

        /** The row becomes the next one: its length; 0 behind the last one. */
        private int nextRow(int size) {
            for (int i = size; i < words.length; i++) {
                row[i] = row[i - size];
            }
            int next = words.length;
            while (next > 0 && row[next - 1] == words.letters - 1) {
                next--;
            }
            if (next > 0) {
                row[next - 1]++;
            }
            return next;
        }

        /** For a round that begins with N LETTERS 0, so that word 0 stands at place 0. */
        private void findPlaces() {
            int word = 0;
            int coming = words.length;
            for (int i = 0; i < words.all; i++) {
                places[word] = i;
                word = word % words.high * words.letters + letters[coming];
                coming = coming + 1 < words.all ? coming + 1 : 0;
            }
        }

        private void becomeGreedy() {
            Arrays.fill(places, 0, words.all, NONE);
            Arrays.fill(letters, 0, words.length, (byte) 0);
            places[0] = 0;
            int word = 0;
            for (int i = 1; i < words.all; i++) {
                word = greatestNew(word % words.high * words.letters);
                places[word] = i;
                int last = i + words.length - 1;
                if (last < words.all) {
                    letters[last] = (byte) (word % words.letters);
                }
            }
            kind = GREEDY_ROUND;
        }

        /** The greatest word that has not come, of those that begin as this one, which ends in 0. */
        private int greatestNew(int begin) {
            int word = begin + words.letters - 1;
            while (word > begin && places[word] != NONE) {
                word--;
            }
            return word;
        }

        private void becomeCycle(int[] lead) {
            int word = 0;
            for (int i = 0; i < words.all; i++) {
                letters[i] = (byte) (word / words.high);
                places[word] = i;
                word = lead[word];
            }
            kind = CYCLE_ROUND;
        }

        private void writeLetters(int from, int n, int[] items, int to) {
            int at = from;
            for (int i = 0; i < n; i++) {
                items[to + i] = letters[at];
                at = at + 1 < words.all ? at + 1 : 0;
            }
        }

        /** At how many places n items stand, with so many slips; notes the first of these places. */
        private int countMatches(int[] items, int from, int n, int slips) {
            noteSlips(items, from, n);
            int coming = noteFirstPlaces(n);
            long newest = 1L << (n - 1);
            int matches = 0;
            for (int p = 0; p < words.all; p++) {
                long wrong = 0;
                int stands = letters[coming];
                for (int v = 0; v < words.letters; v++) {
                    standsAt[v] = standsAt[v] >>> 1 | (v == stands ? newest : 0L);
                    wrong |= standsAt[v] & slipsOf[v];
                }
                coming = coming + 1 < words.all ? coming + 1 : 0;
                if (Long.bitCount(wrong) <= slips) {
                    if (matches == 0) {
                        firstMatch = p;
                    }
                    matches++;
                }
            }
            return matches;
        }

        private void noteSlips(int[] items, int from, int n) {
            Arrays.fill(slipsOf, 0L);
            for (int j = 0; j < n; j++) {
                int item = items[from + j];
                for (int v = 0; v < words.letters && words.isLetter(item); v++) {
                    if (v != item) {
                        slipsOf[v] |= 1L << j;
                    }
                }
            }
        }

        /** Notes all but the last LETTER looked at from place 0 on, one bit up: the place of that one. */
        private int noteFirstPlaces(int n) {
            Arrays.fill(standsAt, 0L);
            int at = 0;
            for (int j = 1; j < n; j++) {
                standsAt[letters[at]] |= 1L << j;
                at = at + 1 < words.all ? at + 1 : 0;
            }
            return at;
        }
    }

    /** A row of items of one form, or none at all. */
    private static final class Tape {
        private final Words words;
        private final int[] items = new int[MOST_ITEMS];
        private int form = NONE;
        private int length;
        /** The words that begin at the items. */
        private final int[] begun = new int[MOST_ITEMS];

        private Tape(Words words) {
            this.words = words;
        }

        private boolean isLost() {
            return form == NONE;
        }

        private void begin(int newForm, int n) {
            form = newForm;
            length = n;
            Arrays.fill(items, 0, n, 0);
        }

        private int drop() {
            form = NONE;
            return length;
        }

        /** Whether there are n items from i on; n may be any int, so nothing is added to it. */
        private boolean hasItems(int i, int n) {
            return i >= 0 && n >= 0 && i <= length - n;
        }

        private int fitted(int v) {
            switch (form) {
                case BYTES:
                    return (byte) v;
                case CHARS:
                    return (char) v;
                default:
                    return (short) v;
            }
        }

        private boolean hasBlanks() {
            for (int i = 0; i < length; i++) {
                if (!words.isLetter(items[i])) {
                    return true;
                }
            }
            return false;
        }

        private int firstRepeated() {
            for (int i = 0; i < length; i++) {
                begun[i] = wordAt(i);
                for (int j = 0; j < i; j++) {
                    if (begun[j] == begun[i]) {
                        return i;
                    }
                }
            }
            return NONE;
        }

        private int wordAt(int i) {
            int word = 0;
            int at = i;
            for (int j = 0; j < words.length; j++) {
                word = word * words.letters + items[at];
                at = at + 1 < length ? at + 1 : 0;
            }
            return word;
        }
    }

    /** The LEAST PARTS of the latest row that had some. */
    private static final class Parting {
        private final int[] begins = new int[MOST_ITEMS];
        private int told;

        /** Duval's way: reads on as long as what is read is one part again and again, or its begin. */
        private int divide(int[] items, int length) {
            int found = 0;
            int begin = 0;
            for (int turns = 0; turns < length && begin < length; turns++) {
                int earlier = begin;
                int at = begin + 1;
                while (at < length && items[earlier] <= items[at]) {
                    earlier = items[earlier] < items[at] ? begin : earlier + 1;
                    at++;
                }
                int size = at - earlier;
                for (; begin <= earlier && found < length; found++) {
                    begins[found] = begin;
                    begin += size;
                }
            }
            if (found > 0) {
                told = found;
            }
            return found;
        }
    }

    /** The LEAST RECURRENCE that was learnt latest, by the way of Berlekamp and Massey. */
    private static final class Recurring {
        /** 1 and behind it the recurrence, each C j taken from 0: what it makes of the row is 0. */
        private final int[] now = new int[MOST_ITEMS + 1];
        /** The one that stood ahead of the latest change of the length. */
        private final int[] earlier = new int[MOST_ITEMS + 1];
        private final int[] spare = new int[MOST_ITEMS + 1];
        private int length;
        private int modulus = 2;

        private int coefficientAt(int j) {
            return (modulus - now[j]) % modulus;
        }

        private int learn(int[] items, int count, int k) {
            modulus = k;
            length = 0;
            Arrays.fill(now, 0);
            Arrays.fill(earlier, 0);
            now[0] = 1;
            earlier[0] = 1;
            int earlierGap = 1;
            int shift = 1;
            for (int i = 0; i < count; i++) {
                int gap = gapAt(items, i);
                if (gap != 0) {
                    int times = gap * inverse(earlierGap) % modulus;
                    if (2 * length <= i) {
                        lengthen(times, shift, i + 1 - length);
                        earlierGap = gap;
                        shift = 0;
                    } else {
                        subtractEarlier(times, shift);
                    }
                }
                shift++;
            }
            lowerNumbers(shift, 2 * length - count);
            return length;
        }

        /** What is left at item i, where 0 is due. */
        private int gapAt(int[] items, int i) {
            int gap = 0;
            for (int j = 0; j <= length; j++) {
                gap += now[j] * items[i - j];
            }
            return gap % modulus;
        }

        private int inverse(int v) {
            int found = 1;
            while (found < modulus && found * v % modulus != 1) {
                found++;
            }
            return found;
        }

        private void lengthen(int times, int shift, int newLength) {
            System.arraycopy(now, 0, spare, 0, now.length);
            subtractEarlier(times, shift);
            System.arraycopy(spare, 0, earlier, 0, spare.length);
            length = newLength;
        }

        private void subtractEarlier(int times, int shift) {
            for (int j = 0; j + shift < now.length; j++) {
                now[j + shift] = (now[j + shift] + (modulus - times) * earlier[j]) % modulus;
            }
        }

        /**
         * All recurrences of the least length differ by what the earlier one, moved on by shift and
         * up to free - 1 more, makes together. As it begins with 1, each of these makes one number 0
         * without a change to those ahead of it.
         */
        private void lowerNumbers(int shift, int free) {
            for (int i = shift; i < shift + free && i < now.length; i++) {
                if (now[i] != 0) {
                    subtractEarlier(now[i], i);
                }
            }
        }
    }
}
