import java.util.Random;

/** Runs of drawn texts and calls: the class answers as the plain Model does. Seeds are fixed, so that a run can be had again. */
public final class ModelTest {
    private static final String[] VARS = {"deed", "own", "purse", "place", "session", "which", "cases", "pled", "gone"};
    private static final String[] TOKENS = {"case", "before", "doom", "plea", "fee", "adjourns", "seed", "if", "then", "else", "deed", "own", "gone",
        ";", "=", "+", "-", "*", "/", "<", "(", ")", ".", "?", "A", "7", "100", "12345", "a", "abcdefgh", "abcdefghi", "\u00e9"};

    private final Random random;
    private final CaseBefore x = new CaseBefore();
    private final Model m = new Model();
    private final int run;
    private int calls = 0;

    private ModelTest(int run) {
        this.run = run;
        random = new Random(run * 7919L + 13);
    }

    private int below(int n) {
        return random.nextInt(n);
    }

    private void due(String call, long got, long want) {
        Due.is("run " + run + ", call " + calls + ": " + call, got, want);
        calls++;
    }

    private void due(String call, boolean got, long want) {
        due(call, got ? 1 : 0, want);
    }

    private String sum(int depth) {
        StringBuilder s = new StringBuilder(product(depth));
        while (below(3) == 0 && s.length() < 80) {
            s.append(below(2) == 0 ? " + " : "-").append(product(depth));
        }
        return s.toString();
    }

    private String product(int depth) {
        StringBuilder s = new StringBuilder(unit(depth));
        while (below(3) == 0 && s.length() < 80) {
            s.append(below(2) == 0 ? "*" : " / ").append(unit(depth));
        }
        return s.toString();
    }

    private String unit(int depth) {
        int what = below(depth < 5 ? 8 : 7);
        if (what == 7) {
            return "(" + sum(depth + 1) + ")";
        }
        return what < 4 ? VARS[below(VARS.length)] : String.valueOf(below(20) == 0 ? below(10000) : below(100));
    }

    private String law() {
        StringBuilder s = new StringBuilder();
        for (int ifs = below(3) == 0 ? below(5) : 0; ifs > 0; ifs--) {
            s.append("if ").append(sum(0)).append('<').append(sum(0)).append(" then ").append(sum(0)).append(" else ");
        }
        return s.append(sum(0)).toString();
    }

    // What is left over of a large number by less than a hundred: sentences that differ at each place.
    private String leftover() {
        String pair = (1 + below(9)) + "*which+" + (1 + below(7)) + "*place";
        String h = "(own*" + below(99) + "+deed*" + below(99) + "+(" + pair + ")*(" + pair + ")*" + (1 + below(99)) + "+pled*" + below(50) + ")";
        int by = 30 + below(70);
        return h + "-" + h + "/" + by + "*" + by;
    }

    private String lawOfSomeSort() {
        return below(2) == 0 ? law() : leftover();
    }

    private String text(int most) {
        StringBuilder s = new StringBuilder();
        int cases = below(6) == 0 ? below(most + 1) : Math.max(most - below(3), 0);
        for (int i = 0; i < cases; i++) {
            s.append("case ").append((char) ('a' + i)).append("x ").append(below(4) == 0 ? 0 : below(100)).append(' ').append(below(100)).append(";\n");
        }
        if (below(2) == 0) {
            s.append("before ").append(below(100)).append(';');
        }
        if (below(2) == 0) {
            s.append("seed ").append(below(10000)).append(';');
        }
        String[] laws = {"doom", "plea", "fee"};
        for (String law : laws) {
            if (below(2) == 0) {
                s.append(law).append("= ").append(lawOfSomeSort()).append(';');
            }
        }
        int adjourns = below(3);
        if (adjourns > 0) {
            s.append("adjourns = ").append(adjourns == 1 ? law() : String.valueOf(30 + below(70))).append(";\t");
        }
        return s.toString();
    }

    // Names told twice and numbers too large, and now and then what is no text at all.
    private String mistaken(String text) {
        StringBuilder s = new StringBuilder();
        for (int i = 0; i < text.length(); i++) {
            char sign = text.charAt(i);
            s.append(sign);
            if (sign >= '0' && sign <= '9' && below(40) == 0) {
                s.append(sign);
            }
            if (sign == 'x' && below(12) == 0) {
                s.setCharAt(s.length() - 2, 'a');
            }
        }
        return below(4) == 0 ? spoilt(s.toString()) : s.toString();
    }

    private String spoilt(String text) {
        StringBuilder s = new StringBuilder(text);
        for (int n = 1 + below(2); n > 0; n--) {
            int at = below(s.length() + 1);
            switch (below(4)) {
                case 0:
                    s.insert(at, " " + TOKENS[below(TOKENS.length)] + " ");
                    break;
                case 1:
                    s.insert(at, TOKENS[below(TOKENS.length)]);
                    break;
                case 2:
                    s.delete(at, Math.min(s.length(), at + 1 + below(3)));
                    break;
                default:
                    s.setLength(at);
            }
        }
        return s.toString();
    }

    private void feedAndRead(String text) {
        if (text.length() > 2000) {
            return;
        }
        int[] w = Due.words(text);
        for (int i = 0; i < w.length; i += 5) {
            due("feed", x.feed(w[i], w[i + 1], w[i + 2], w[i + 3], w[i + 4]), m.feed(w[i], w[i + 1], w[i + 2], w[i + 3], w[i + 4]));
        }
        int blanks = w.length * 4 - text.length();
        due("back(" + blanks + ")", x.back(blanks), m.back(blanks));
        due("read() of " + text, x.read(), m.read());
        due("place() of " + text, x.place(), m.faultPlace);
    }

    private int someone() {
        return below(12) == 0 ? below(12) - 3 : below(Math.max(1, m.told.cases.size()));
    }

    private int few(int low, int high) {
        return below(15) == 0 ? low - 2 + below(high - low + 5) : low + below(high - low + 1);
    }

    private void doOne() {
        int a = someone();
        int b = someone();
        int n = few(0, 6);
        switch (below(10)) {
            case 0:
            case 1:
                due("change(" + a + ", " + b + ")", x.change(a, b), m.change(a, b));
                break;
            case 2:
            case 3:
                due("go(" + a + ", " + n + ")", x.go(a, n), m.go(a, n));
                break;
            case 4:
                due("off(" + a + ")", x.off(a), m.off(a));
                break;
            case 5:
            case 9:
                due("on(" + a + ")", x.on(a), m.on(a));
                break;
            case 6:
            case 7:
                due("plead(" + a + ")", x.plead(a), m.plead(a));
                break;
            default:
                n = below(3) > 0 ? 0 : below(3) == 0 ? few(0, 40) : few(0, 1);
                due("sessions(" + n + ")", x.sessions(n), m.sessions(n));
        }
    }

    private void goOn() {
        int n = few(0, 2);
        switch (below(6)) {
            case 0:
                due("undo()", x.undo(), m.undo());
                break;
            case 1:
                due("hold(" + n + ")", x.hold(n), m.hold(n));
                break;
            case 2:
                if (below(3) > 0) {
                    break;
                }
                due("restore(" + n + ")", x.restore(n), m.restore(n));
                break;
            case 3:
                if (below(8) == 0) {
                    due("forget()", x.forget(), m.forget());
                }
                break;
            default:
                int place = below(3) == 0 ? few(0, 6) : below(Math.max(1, m.now.list.size()));
                int v = below(10) == 0 ? few(0, 999) : below(100);
                boolean so = below(2) == 0;
                due("tell(" + place + ", " + v + ", " + so + ")", x.tell(place, v, so), m.tell(place, v, so));
        }
    }

    private void lookAtOne() {
        int a = someone();
        int b = someone();
        int what = few(0, 6);
        due("docket(" + a + ", " + what + ")", x.docket(a, what), m.docket(a, what));
        what = few(0, 1);
        due("suffers(" + a + ", " + what + ")", x.suffers(a, what), m.suffers(a, what));
        due("furthest(" + a + ", " + what + ")", x.furthest(a, what), m.furthest(a, what));
        what = few(0, 2);
        int deed = few(0, 99);
        due("tells(" + a + ", " + deed + ", " + what + ")", x.tells(a, deed, what), m.tells(a, deed, what));
        int place = few(0, 6);
        due("at(" + place + ")", x.at(place), m.at(place));
        due("behind(" + a + ")", x.behind(a), m.behind(a));
        due("traders(" + a + ")", x.traders(a), m.traders(a));
        due("gain(" + a + ", " + b + ")", x.gain(a, b), m.gain(a, b));
        int n = few(0, 40);
        due("then(" + a + ", " + n + ")", x.then(a, n), m.then(a, n));
        n = below(3);
        int s = few(1, 20);
        due("year(" + a + ", " + n + ", " + s + ")", x.year(a, n, s), m.year(a, n, s));
    }

    private void lookAtAll() {
        int what = few(0, 1);
        int n = below(3);
        int goal = few(0, 3);
        int i = few(-2, 6);
        int k = below(4) == 0 ? few(0, 20) : below(Math.min(5, m.known.size() + 1));
        int v = few(0, 99);
        switch (below(10)) {
            case 0:
                due("shunned(" + what + ")", x.shunned(what), m.shunned(what));
                due("buyers()", x.buyers(), m.buyers());
                break;
            case 1:
                due("lighter(" + what + ")", x.lighter(what), m.lighter(what));
                due("settles()", x.settles(), m.settles());
                break;
            case 2:
                due("listIn(" + n + ", " + what + ")", x.listIn(n, what), m.listIn(n, what));
                break;
            case 3:
                due("rests()", x.rests(), m.rests());
                break;
            case 4:
            case 5:
                due("best(" + goal + ", " + i + ")", x.best(goal, i), m.best(goal, i));
                break;
            case 6:
                due("fits(" + k + ", " + what + ")", x.fits(k, what), m.fits(k, what));
                break;
            case 7:
                due("ask(" + k + ", " + v + ")", x.ask(k, v), m.ask(k, v));
                break;
            default:
                what = few(0, 18);
                due("count(" + what + ")", x.count(what), m.count(what));
        }
    }

    private void all(int mostCases) {
        feedAndRead(text(mostCases));
        for (int turn = 0; turn < 45 && calls < 470; turn++) {
            doOne();
            goOn();
            if (turn % 3 == 0) {
                lookAtOne();
            }
            lookAtAll();
            if (below(30) == 0) {
                feedAndRead(mistaken(text(mostCases)));
            }
        }
        for (int what = 0; what < 19; what++) {
            due("count(" + what + ")", x.count(what), m.count(what));
        }
    }

    public static void main(String[] args) {
        int runs = args.length > 0 ? Integer.parseInt(args[0]) : 400;
        for (int run = 0; run < runs; run++) {
            new ModelTest(run).all(run % 12 == 0 ? 7 : run % 12 == 1 ? 6 : 5);
        }
        for (int run = runs; run < runs + 4000; run++) {
            ModelTest texts = new ModelTest(run);
            for (int i = 0; i < 3; i++) {
                texts.feedAndRead(texts.spoilt(texts.text(8)));
                texts.feedAndRead(texts.mistaken(texts.text(7)));
            }
        }
        Due.end();
    }
}
