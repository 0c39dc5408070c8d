import java.util.ArrayList;
import java.util.List;

/** What an object answers, row by row, so that two objects can be compared. */
final class Probe {
    private final CaseBefore x;
    private final List<String> rows = new ArrayList<>();

    private Probe(CaseBefore x) {
        this.x = x;
    }

    /** Asks all that changes nothing (but for place(), which tells of the latest read). */
    static List<String> asItIs(CaseBefore x) {
        Probe p = new Probe(x);
        p.counts();
        for (int docket = 0; docket < x.count(0); docket++) {
            p.ofOne(docket);
        }
        p.ofAll();
        p.ofWhatIsTold();
        return p.rows;
    }

    /** Goes on: undoes, restores, tells, forgets, reads; the object is another one then. */
    static List<String> goingOn(CaseBefore x) {
        Probe p = new Probe(x);
        for (int i = 0; i < 8; i++) {
            p.row("undo", x.undo() ? 1 : 0);
            p.shortly();
        }
        for (int slot = 0; slot < 3; slot++) {
            p.row("restore " + slot, x.restore(slot) ? 1 : 0);
            p.shortly();
        }
        p.row("tell", x.tell(1, 5, false));
        p.row("forget", x.forget());
        p.row("read", x.read());
        p.row("place", x.place());
        p.counts();
        return p.rows;
    }

    private void row(String call, long answer) {
        rows.add(call + " = " + answer);
    }

    private void counts() {
        for (int what = 0; what <= 18; what++) {
            row("count(" + what + ")", x.count(what));
        }
        places();
    }

    private void places() {
        for (int place = 0; place < 7; place++) {
            row("at(" + place + ")", x.at(place));
        }
    }

    private void shortly() {
        for (int what : new int[] {2, 3, 5, 6, 7, 9, 12}) {
            row("count(" + what + ")", x.count(what));
        }
        places();
    }

    private void ofOne(int docket) {
        for (int what = 0; what <= 6; what++) {
            row("docket(" + docket + ", " + what + ")", x.docket(docket, what));
        }
        for (int what = 0; what <= 1; what++) {
            row("suffers(" + docket + ", " + what + ")", x.suffers(docket, what));
            row("furthest(" + docket + ", " + what + ")", x.furthest(docket, what));
        }
        for (int what = 0; what <= 2; what++) {
            row("tells(" + docket + ", 37, " + what + ")", x.tells(docket, 37, what));
        }
        row("traders(" + docket + ")", x.traders(docket));
        row("behind(" + docket + ")", x.behind(docket));
        row("gain(0, " + docket + ")", x.gain(0, docket));
        row("then(" + docket + ", 2)", x.then(docket, 2));
        row("year(" + docket + ", 1, 5)", x.year(docket, 1, 5));
    }

    private void ofAll() {
        for (int goal = 0; goal <= 3; goal++) {
            for (int i = -2; i <= 1; i++) {
                row("best(" + goal + ", " + i + ")", x.best(goal, i));
            }
        }
        row("rests", x.rests());
        row("settles", x.settles());
        row("buyers", x.buyers());
        for (int what = 0; what <= 1; what++) {
            row("shunned(" + what + ")", x.shunned(what));
            row("lighter(" + what + ")", x.lighter(what));
            row("listIn(2, " + what + ")", x.listIn(2, what));
        }
    }

    private void ofWhatIsTold() {
        int told = x.count(10);
        for (int k : new int[] {0, 1, told - 1, told}) {
            row("fits(" + k + ", 0)", x.fits(k, 0));
            row("fits(" + k + ", 1)", x.fits(k, 1));
            row("ask(" + k + ", 30)", x.ask(k, 30));
        }
    }
}
