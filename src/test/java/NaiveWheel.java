import java.util.ArrayList;
import java.util.Arrays;
import java.util.HashSet;
import java.util.List;
import java.util.Set;
import java.util.TreeMap;
import java.util.TreeSet;

/**
 * The document told a second time, slowly and by going through everything: what WordWheel is
 * compared with. It shares no code and, where there is another one, no way of working with it.
 */
final class NaiveWheel {
    static final int NONE = -1, BAD = -2, NOT = -3, FULL = -4;
    static final int NULL = -11, INDEX = -12, CAST = -13, STORE = -14, SIZE = -15;

    int k, n, all;
    private int[] leastOf;
    private List<Integer> leasts;
    private int[] factors;
    private int sum;
    private List<int[]> exchanges = new ArrayList<>();
    private int[] round;
    private int kind = NONE;
    private int found = NONE;
    private final Object[] tapes = new Object[4];
    private List<Integer> parts = new ArrayList<>();
    private int[] coefficients = new int[0];
    private int finding = 0;

    NaiveWheel() {
        wheel(2, 3);
    }

    int wheel(int newK, int newN) {
        if (newK < 2 || newK > 5 || newN < 1 || newN > 14 || Math.pow(newK, newN) > 20000) {
            return BAD;
        }
        k = newK;
        n = newN;
        all = (int) Math.round(Math.pow(k, n));
        leastOf = new int[all];
        for (int w = 0; w < all; w++) {
            leastOf[w] = ringWords(w).first();
        }
        TreeSet<Integer> sorted = new TreeSet<>();
        for (int w = 0; w < all; w++) {
            sorted.add(leastOf[w]);
        }
        leasts = new ArrayList<>(sorted);
        factors = new int[n];
        factors[0] = 1;
        sum = 0;
        exchanges.clear();
        round = null;
        kind = NONE;
        found = NONE;
        return all;
    }

    private boolean isWord(int w) {
        return w >= 0 && w < all;
    }

    private int[] spell(int word) {
        int[] row = new int[n];
        for (int i = n - 1, rest = word; i >= 0; i--, rest /= k) {
            row[i] = rest % k;
        }
        return row;
    }

    private int number(int[] row) {
        int word = 0;
        for (int letter : row) {
            word = word * k + letter;
        }
        return word;
    }

    int turn(int word, int t) {
        if (!isWord(word) || t < 0 || t > 1000) {
            return BAD;
        }
        int[] row = spell(word);
        int[] turned = new int[n];
        for (int i = 0; i < n; i++) {
            turned[i] = row[(i + t) % n];
        }
        return number(turned);
    }

    private TreeSet<Integer> ringWords(int word) {
        TreeSet<Integer> ring = new TreeSet<>();
        for (int t = 0; t < n; t++) {
            ring.add(turn(word, t));
        }
        return ring;
    }

    int least(int word) {
        return isWord(word) ? leastOf[word] : BAD;
    }

    int steps(int word) {
        if (!isWord(word)) {
            return BAD;
        }
        int t = 0;
        while (turn(word, t) != leastOf[word]) {
            t++;
        }
        return t;
    }

    int size(int word) {
        return isWord(word) ? ringWords(word).size() : BAD;
    }

    int even(int word) {
        if (!isWord(word)) {
            return BAD;
        }
        int[] row = spell(leastOf[word]);
        int[] mirrored = new int[n];
        for (int i = 0; i < n; i++) {
            mirrored[i] = row[n - 1 - i];
        }
        return leastOf[number(mirrored)] == leastOf[word] ? 1 : 0;
    }

    int rings() {
        return leasts.size();
    }

    int ringOf(int word) {
        return isWord(word) ? leasts.indexOf(leastOf[word]) : BAD;
    }

    int ring(int r) {
        return r >= 0 && r < leasts.size() ? leasts.get(r) : BAD;
    }

    int below(int word) {
        if (!isWord(word)) {
            return BAD;
        }
        int many = 0;
        for (int w = 0; w < all; w++) {
            if (leastOf[w] < word) {
                many++;
            }
        }
        return many;
    }

    int content(int a, int b, int c, int d, int e) {
        int[] want = {a, b, c, d, e};
        long together = 0;
        for (int v = 0; v < 5; v++) {
            if (want[v] < 0 || v >= k && want[v] > 0) {
                return BAD;
            }
            together += want[v];
        }
        if (together != n) {
            return BAD;
        }
        int many = 0;
        for (int least : leasts) {
            int[] have = new int[5];
            for (int letter : spell(least)) {
                have[letter]++;
            }
            if (Arrays.equals(have, want)) {
                many++;
            }
        }
        return many;
    }

    int factor(int i, int v) {
        if (i < 0 || i >= n || v < 0 || v >= k) {
            return BAD;
        }
        int was = factors[i];
        factors[i] = v;
        exchanges.clear();
        return was;
    }

    int sum(int v) {
        if (v < 0 || v >= k) {
            return BAD;
        }
        int was = sum;
        sum = v;
        exchanges.clear();
        return was;
    }

    private int plainLead(int word) {
        int[] row = spell(word);
        int comes = sum;
        for (int i = 0; i < n; i++) {
            comes += factors[i] * row[i];
        }
        int[] next = new int[n];
        for (int i = 0; i < n - 1; i++) {
            next[i] = row[i + 1];
        }
        next[n - 1] = comes % k;
        return number(next);
    }

    private int[] leads() {
        int[] leads = new int[all];
        for (int w = 0; w < all; w++) {
            leads[w] = plainLead(w);
        }
        for (int[] pair : exchanges) {
            swap(leads, pair[0], pair[1]);
        }
        return leads;
    }

    private static void swap(int[] leads, int a, int b) {
        int was = leads[a];
        leads[a] = leads[b];
        leads[b] = was;
    }

    int go(int word) {
        return isWord(word) ? leads()[word] : BAD;
    }

    private boolean isRight() {
        Set<Integer> reached = new HashSet<>();
        for (int lead : leads()) {
            reached.add(lead);
        }
        return reached.size() == all;
    }

    int right() {
        return isRight() ? 1 : 0;
    }

    /** The cycles by their least words. */
    private static TreeMap<Integer, List<Integer>> cyclesOf(int[] leads) {
        TreeMap<Integer, List<Integer>> cycles = new TreeMap<>();
        boolean[] seen = new boolean[leads.length];
        for (int w = 0; w < leads.length; w++) {
            List<Integer> members = new ArrayList<>();
            for (int at = w; !seen[at]; at = leads[at]) {
                seen[at] = true;
                members.add(at);
            }
            if (!members.isEmpty()) {
                cycles.put(w, members);
            }
        }
        return cycles;
    }

    int exchange(int one, int other) {
        if (!isWord(one) || !isWord(other)) {
            return BAD;
        }
        int[] a = spell(one);
        int[] b = spell(other);
        if (a[0] == b[0] || !Arrays.equals(Arrays.copyOfRange(a, 1, n), Arrays.copyOfRange(b, 1, n))) {
            return BAD;
        }
        if (!isRight()) {
            return NOT;
        }
        if (exchanges.size() == 400) {
            return FULL;
        }
        exchanges.add(new int[] {one, other});
        return cyclesOf(leads()).size();
    }

    int back() {
        if (exchanges.isEmpty()) {
            return NOT;
        }
        exchanges.remove(exchanges.size() - 1);
        return exchanges.size();
    }

    int cycles() {
        return isRight() ? cyclesOf(leads()).size() : NOT;
    }

    int cycleOf(int word) {
        if (!isRight()) {
            return NOT;
        }
        if (!isWord(word)) {
            return BAD;
        }
        int number = 0;
        for (List<Integer> members : cyclesOf(leads()).values()) {
            if (members.contains(word)) {
                return number;
            }
            number++;
        }
        throw new IllegalStateException("a word without a cycle");
    }

    int cycle(int c, int what) {
        if (!isRight()) {
            return NOT;
        }
        List<List<Integer>> cycles = new ArrayList<>(cyclesOf(leads()).values());
        if (c < 0 || c >= cycles.size() || what < 0 || what > 1) {
            return BAD;
        }
        return what == 0 ? cycles.get(c).get(0) : cycles.get(c).size();
    }

    private static boolean together(int[] leads, int one, int other) {
        int at = leads[one];
        while (at != one && at != other) {
            at = leads[at];
        }
        return at == other;
    }

    int join() {
        if (!isRight()) {
            return NOT;
        }
        int[] leads = leads();
        List<int[]> made = new ArrayList<>();
        int high = all / k;
        for (int w = 0; w < all; w++) {
            if (w / high != k - 1 && !together(leads, w, w + high)) {
                swap(leads, w, w + high);
                made.add(new int[] {w, w + high});
                if (exchanges.size() + made.size() > 400) {
                    return FULL;
                }
            }
        }
        exchanges.addAll(made);
        return made.size();
    }

    int round(int newKind) {
        int[] made;
        switch (newKind) {
            case 0:
                made = leastRound();
                break;
            case 1:
                made = greedyRound();
                break;
            case 2:
                if (!isRight() || cyclesOf(leads()).size() > 1) {
                    return NOT;
                }
                made = cycleRound();
                break;
            default:
                return BAD;
        }
        round = made;
        kind = newKind;
        return all;
    }

    private int[] leastRound() {
        int[] made = new int[all];
        int filled = 0;
        for (int least : leasts) {
            int[] row = spell(least);
            for (int i = 0; i < ringWords(least).size(); i++) {
                made[filled++] = row[i];
            }
        }
        return made;
    }

    private int[] greedyRound() {
        List<Integer> letters = new ArrayList<>();
        Set<List<Integer>> come = new HashSet<>();
        for (int i = 0; i < n; i++) {
            letters.add(0);
        }
        come.add(new ArrayList<>(letters));
        boolean grew = true;
        while (grew) {
            grew = false;
            for (int v = k - 1; v >= 0 && !grew; v--) {
                List<Integer> word = new ArrayList<>(letters.subList(letters.size() - n + 1, letters.size()));
                word.add(v);
                if (come.add(word)) {
                    letters.add(v);
                    grew = true;
                }
            }
        }
        int[] made = new int[all];
        for (int i = 0; i < all; i++) {
            made[i] = letters.get(i);
        }
        return made;
    }

    private int[] cycleRound() {
        int[] leads = leads();
        int[] made = new int[all];
        int at = 0;
        for (int i = 0; i < all; i++) {
            made[i] = spell(at)[0];
            at = leads[at];
        }
        return made;
    }

    int letter(int i) {
        return round == null || i < 0 || i >= all ? BAD : round[i];
    }

    int place(int word) {
        if (!isWord(word)) {
            return BAD;
        }
        if (round == null) {
            return NOT;
        }
        int[] row = spell(word);
        for (int p = 0; p < all; p++) {
            int same = 0;
            while (same < n && round[(p + same) % all] == row[same]) {
                same++;
            }
            if (same == n) {
                return p;
            }
        }
        throw new IllegalStateException("a word without a place");
    }

    int way(int from, int to) {
        if (round == null || from < 0 || from >= all || to < 0 || to >= all) {
            return BAD;
        }
        int steps = 0;
        for (int at = from; at != to; at = (at + 1) % all) {
            steps++;
        }
        return steps;
    }

    private int found(int number) {
        finding = -10 - number;
        return number;
    }

    private static boolean isTape(int t) {
        return t >= 0 && t <= 3;
    }

    private static int formOf(Object tape) {
        return tape instanceof byte[] ? 0 : tape instanceof char[] ? 1 : 2;
    }

    private static int lengthOf(Object tape) {
        return java.lang.reflect.Array.getLength(tape);
    }

    private static int itemOf(Object tape, int i) {
        if (tape instanceof byte[] bytes) {
            return bytes[i];
        }
        return tape instanceof char[] chars ? chars[i] : ((short[]) tape)[i];
    }

    private static void setItem(Object tape, int i, int v) {
        if (tape instanceof byte[] bytes) {
            bytes[i] = (byte) v;
        } else if (tape instanceof char[] chars) {
            chars[i] = (char) v;
        } else {
            ((short[]) tape)[i] = (short) v;
        }
    }

    int tape(int t, int form, int size) {
        if (!isTape(t) || form < 0 || form > 2 || size > 200) {
            return BAD;
        }
        if (size < 0) {
            return found(SIZE);
        }
        tapes[t] = form == 0 ? new byte[size] : form == 1 ? new char[size] : new short[size];
        return size;
    }

    int lose(int t) {
        if (!isTape(t)) {
            return BAD;
        }
        if (tapes[t] == null) {
            return found(NULL);
        }
        int had = lengthOf(tapes[t]);
        tapes[t] = null;
        return had;
    }

    private int itemFault(int t, int form, int i) {
        if (!isTape(t) || form < 0 || form > 2) {
            return BAD;
        }
        if (tapes[t] == null) {
            return found(NULL);
        }
        if (formOf(tapes[t]) != form) {
            return found(CAST);
        }
        return i < 0 || i >= lengthOf(tapes[t]) ? found(INDEX) : 0;
    }

    int put(int t, int form, int i, int v) {
        int fault = itemFault(t, form, i);
        if (fault != 0) {
            return fault;
        }
        setItem(tapes[t], i, v);
        return 1;
    }

    int get(int t, int form, int i) {
        return itemFault(t, form, i) != 0 ? Integer.MIN_VALUE : itemOf(tapes[t], i);
    }

    int copy(int t, int i, int u, int j, int many) {
        if (!isTape(t) || !isTape(u)) {
            return BAD;
        }
        if (tapes[t] == null || tapes[u] == null) {
            return found(NULL);
        }
        if (formOf(tapes[t]) != formOf(tapes[u])) {
            return found(STORE);
        }
        try {
            System.arraycopy(tapes[t], i, tapes[u], j, many);
        } catch (IndexOutOfBoundsException e) {
            return found(INDEX);
        }
        return 1;
    }

    int print(int t, int i, int p, int many) {
        if (!isTape(t) || p < 0 || p >= all || many < 0) {
            return BAD;
        }
        if (round == null) {
            return NOT;
        }
        if (tapes[t] == null) {
            return found(NULL);
        }
        if (i < 0 || (long) i + many > lengthOf(tapes[t])) {
            return found(INDEX);
        }
        for (int m = 0; m < many; m++) {
            setItem(tapes[t], i + m, round[(p + m) % all]);
        }
        return many;
    }

    int find(int t, int i, int many, int slips) {
        if (!isTape(t) || many < 1 || many > 40 || slips < 0 || slips > 40) {
            return BAD;
        }
        if (round == null) {
            return NOT;
        }
        if (tapes[t] == null) {
            return found(NULL);
        }
        if (i < 0 || (long) i + many > lengthOf(tapes[t])) {
            return found(INDEX);
        }
        List<Integer> places = new ArrayList<>();
        for (int p = 0; p < all; p++) {
            int wrong = 0;
            for (int m = 0; m < many; m++) {
                int item = itemOf(tapes[t], i + m);
                if (item >= 0 && item < k && item != round[(p + m) % all]) {
                    wrong++;
                }
            }
            if (wrong <= slips) {
                places.add(p);
            }
        }
        if (!places.isEmpty()) {
            found = places.get(0);
        }
        return places.size();
    }

    int found() {
        return found;
    }

    /** The LETTERS of a tape; null: it has BLANKS. */
    private int[] lettersOf(Object tape) {
        int[] letters = new int[lengthOf(tape)];
        for (int i = 0; i < letters.length; i++) {
            letters[i] = itemOf(tape, i);
            if (letters[i] < 0 || letters[i] >= k) {
                return null;
            }
        }
        return letters;
    }

    int twice(int t) {
        if (!isTape(t)) {
            return BAD;
        }
        if (tapes[t] == null) {
            return found(NULL);
        }
        int[] letters = lettersOf(tapes[t]);
        if (letters == null || letters.length == 0) {
            return NOT;
        }
        Set<List<Integer>> begun = new HashSet<>();
        for (int i = 0; i < letters.length; i++) {
            List<Integer> word = new ArrayList<>();
            for (int j = 0; j < n; j++) {
                word.add(letters[(i + j) % letters.length]);
            }
            if (!begun.add(word)) {
                return i;
            }
        }
        return NONE;
    }

    private static boolean isLeastPart(int[] row) {
        for (int t = 1; t < row.length; t++) {
            int[] turned = new int[row.length];
            for (int i = 0; i < row.length; i++) {
                turned[i] = row[(i + t) % row.length];
            }
            if (Arrays.compare(row, turned) >= 0) {
                return false;
            }
        }
        return true;
    }

    /** The first part of such a parting is the longest beginning that can be a part. */
    static List<Integer> leastParts(int[] letters) {
        List<Integer> begins = new ArrayList<>();
        int begin = 0;
        while (begin < letters.length) {
            begins.add(begin);
            int end = letters.length;
            while (!isLeastPart(Arrays.copyOfRange(letters, begin, end))) {
                end--;
            }
            begin = end;
        }
        return begins;
    }

    int parts(int t) {
        if (!isTape(t)) {
            return BAD;
        }
        if (tapes[t] == null) {
            return found(NULL);
        }
        int[] letters = lettersOf(tapes[t]);
        if (letters == null) {
            return NOT;
        }
        List<Integer> begins = leastParts(letters);
        if (!begins.isEmpty()) {
            parts = begins;
        }
        return begins.size();
    }

    int part(int number) {
        return number < 0 || number >= parts.size() ? BAD : parts.get(number);
    }

    int recurrence(int t) {
        if (!isTape(t)) {
            return BAD;
        }
        if (tapes[t] == null) {
            return found(NULL);
        }
        int[] letters = lettersOf(tapes[t]);
        if (k == 4 || letters == null) {
            return NOT;
        }
        coefficients = leastRecurrence(letters, k);
        return coefficients.length;
    }

    static int[] leastRecurrence(int[] letters, int k) {
        for (int length = 0; ; length++) {
            int[] solved = solve(letters, length, k);
            if (solved != null) {
                return solved;
            }
        }
    }

    /**
     * The equations of all LETTERS from number length on, by elimination from the last coefficient
     * on: those left free are the earliest that can be, and are 0. null: there is no solution.
     */
    private static int[] solve(int[] letters, int length, int k) {
        int rows = Math.max(0, letters.length - length);
        int[][] m = new int[rows][length + 1];
        for (int r = 0; r < rows; r++) {
            for (int j = 1; j <= length; j++) {
                m[r][j - 1] = letters[length + r - j];
            }
            m[r][length] = letters[length + r];
        }
        int[] pivotRow = new int[length];
        Arrays.fill(pivotRow, -1);
        int used = 0;
        for (int c = length - 1; c >= 0 && used < rows; c--) {
            int r = used;
            while (r < rows && m[r][c] == 0) {
                r++;
            }
            if (r == rows) {
                continue;
            }
            int[] held = m[r];
            m[r] = m[used];
            m[used] = held;
            int inverse = 1;
            while (inverse * held[c] % k != 1) {
                inverse++;
            }
            for (int x = 0; x <= length; x++) {
                held[x] = held[x] * inverse % k;
            }
            for (int other = 0; other < rows; other++) {
                int times = m[other][c];
                if (other != used && times != 0) {
                    for (int x = 0; x <= length; x++) {
                        m[other][x] = Math.floorMod(m[other][x] - times * held[x], k);
                    }
                }
            }
            pivotRow[c] = used++;
        }
        for (int r = used; r < rows; r++) {
            if (m[r][length] != 0) {
                return null;
            }
        }
        int[] solved = new int[length];
        for (int c = 0; c < length; c++) {
            solved[c] = pivotRow[c] < 0 ? 0 : m[pivotRow[c]][length];
        }
        return solved;
    }

    int coefficient(int j) {
        return j < 1 || j > coefficients.length ? BAD : coefficients[j - 1];
    }

    int count(int what) {
        int[] counts = {k, n, all, exchanges.size(), kind, finding};
        return what < 0 || what >= counts.length ? BAD : counts[what];
    }

    long digest() {
        List<Integer> told = new ArrayList<>();
        for (int what = 0; what <= 4; what++) {
            told.add(count(what));
        }
        for (int lead : leads()) {
            told.add(lead);
        }
        for (int i = 0; round != null && i < all; i++) {
            told.add(round[i]);
        }
        long h = 17;
        for (int one : told) {
            h = 31 * h + one;
        }
        return h;
    }
}
