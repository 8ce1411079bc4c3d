import java.util.ArrayList;
import java.util.List;

/** All that an object shows of itself, but for count(5): each call with its answer. The object is spent then. */
final class Shown {
    private final WordWheel wheel;
    private final List<String> rows = new ArrayList<>();

    private Shown(WordWheel wheel) {
        this.wheel = wheel;
    }

    /** Takes some 300 calls, of the 512 that an object has. */
    static List<String> of(WordWheel x) {
        Shown shown = new Shown(x);
        shown.counts();
        shown.results();
        shown.words();
        shown.tapes();
        shown.register();
        return shown.rows;
    }

    private void row(String call, long answer) {
        rows.add(call + " is " + answer);
    }

    private void counts() {
        for (int what = 0; what < 5; what++) {
            row("count(" + what + ")", wheel.count(what));
        }
        row("digest()", wheel.digest());
        row("right()", wheel.right());
        row("cycles()", wheel.cycles());
        row("rings()", wheel.rings());
    }

    private void results() {
        row("found()", wheel.found());
        for (int i = 0; i < 9; i++) {
            row("part(" + i + ")", wheel.part(i));
            row("coefficient(" + i + ")", wheel.coefficient(i));
        }
    }

    private void words() {
        int last = wheel.count(2) - 1;
        for (int w = 0; w <= last && w < 27; w++) {
            row("letter(" + w + ")", wheel.letter(w));
            row("place(" + w + ")", wheel.place(w));
            row("cycleOf(" + w + ")", wheel.cycleOf(w));
        }
        row("letter(" + last + ")", wheel.letter(last));
        row("place(" + last + ")", wheel.place(last));
    }

    private void tapes() {
        for (int t = 0; t < 4; t++) {
            for (int form = 0; form < 3; form++) {
                for (int i = 0; i < 8; i++) {
                    row("get(" + t + ", " + form + ", " + i + ")", wheel.get(t, form, i));
                }
            }
        }
        for (int t = 0; t < 4; t++) {
            row("lose(" + t + ")", wheel.lose(t));
        }
    }

    /** Takes some EXCHANGES back, then asks what the FACTORS and the SUM were. */
    private void register() {
        for (int i = 0; i < 5; i++) {
            row("back()", wheel.back());
            row("digest()", wheel.digest());
        }
        int length = wheel.count(1);
        for (int i = 0; i < length; i++) {
            row("factor(" + i + ", 0)", wheel.factor(i, 0));
        }
        row("sum(0)", wheel.sum(0));
    }
}
