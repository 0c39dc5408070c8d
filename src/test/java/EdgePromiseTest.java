/**
 * Promises 1 to 36, each by its refusals and its ranges: at each end, one beyond it on each side, and far beyond it. Where nothing
 * happens, all later answers are as those of a twin that was not asked.
 */
public final class EdgePromiseTest {
    private static final int LOW = Integer.MIN_VALUE;
    private static final int HIGH = Integer.MAX_VALUE;
    // Behind past(): the list is a e b c, d is off it, a pleads, b has 10 left, one session is by, two are told, slot 1 holds something.
    private static final String PAST = "case a 40 20;case b 60 30;case c 0 10;case d 20 50;case e 70 60;before 50;seed 77;doom=deed+which-place;"
        + "plea=deed/3+gone;fee=deed/2;adjourns=if session<1 then 0 else 50;";
    private static final int[] NOBODY = {-1, 5, 6, 7, 8, 31, 32, 64, LOW, LOW + 1, HIGH - 1, HIGH};

    public static void main(String[] args) {
        thePast();
        aNewObject();
        feed();
        back();
        read();
        place();
        docket();
        suffers();
        tells();
        at();
        change();
        go();
        off();
        on();
        plead();
        sessions();
        undo();
        theLastForty();
        best();
        traders();
        gain();
        behind();
        restsAndSettles();
        shunned();
        buyers();
        lighter();
        furthest();
        then();
        listIn();
        year();
        tell();
        forget();
        fits();
        ask();
        hold();
        restore();
        count();
        Due.end();
    }

    private static long past(CaseBefore x) {
        Due.feed(x, PAST);
        x.read();
        x.sessions(1);
        x.on(0);
        x.on(1);
        x.on(2);
        x.on(4);
        x.plead(0);
        x.hold(1);
        x.go(4, 1);
        x.tell(0, 30, true);
        x.tell(1, 20, false);
        Due.feed(x, "before 9;case q 5 5;");
        return x.place();
    }

    private static CaseBefore behindPast() {
        CaseBefore x = new CaseBefore();
        past(x);
        return x;
    }

    private static void nothing(String name, Twin.Calls calls, long want) {
        Twin.nothingHappens(name, EdgePromiseTest::past, calls, want);
    }

    private static void thePast() {
        CaseBefore x = behindPast();
        Due.row("the list", Due.list(x), 0, 4, 1, 2);
        Due.row("counts", Due.of(x.count(0), x.count(2), x.count(3), x.count(6), x.count(8), x.count(9), x.count(10), x.count(11), x.count(12), x.count(15)),
            5, 1, 70, 1, 20, 7, 2, 1, 5, 8);
        Due.row("purses", Due.of(x.docket(0, 1), x.docket(1, 1), x.docket(2, 1), x.docket(3, 1), x.docket(4, 1)), 20, 10, 10, 50, 60);
    }

    // Promise 1: "No CASES."
    private static void aNewObject() {
        CaseBefore x = new CaseBefore();
        for (int what = -1; what <= 19; what++) {
            Due.is("count(" + what + ")", x.count(what), what == 13 ? 1 : what < 0 || what > 18 ? -1 : 0);
        }
        Due.row("of nobody", Due.of(x.docket(0, 0), x.docket(0, 2), x.suffers(0, 0), x.tells(0, 0, 0), x.at(0), x.then(0, 0), x.year(0, 0, 1), x.place()),
            -1, -1, -1, -1, -1, -1, -1, -1);
        Due.row("nothing happens", Due.of(Twin.bit(x.change(0, 1)), Twin.bit(x.go(0, 0)), Twin.bit(x.off(0)), Twin.bit(x.on(0)), x.plead(0), Twin.bit(x.undo()), x.count(9)),
            0, 0, 0, 0, -1, 0, 0);
        Twin.comeToTheSame("reading nothing", y -> y.read(), y -> 0);
        Twin.comeToTheSame("undone sessions", y -> {
            y.sessions(40);
            return Twin.bit(y.undo());
        }, y -> 0);
    }

    // Promise 2: "NONE, and nothing comes, if it would have more than 2,000."
    private static void feed() {
        CaseBefore x = new CaseBefore();
        for (int i = 1; i <= 100; i++) {
            Due.is("feed " + i, x.feed(0x20202020, 0x20202020, 0x20202020, 0x20202020, 0x20202020), 20 * i);
        }
        Due.row("a 101st", Due.of(x.feed(0, 0, 0, 0, 0), x.count(8), x.feed(1, 2, 3, 4, 5), x.count(8)), -1, 2000, -1, 2000);
        for (int less = 1; less <= 21; less++) {
            CaseBefore y = new CaseBefore();
            Due.feed(y, " ".repeat(2000));
            Due.is("back", y.back(less), 2000 - less);
            Due.is("feed behind " + (2000 - less), y.feed(0x3f3f3f3f, 0x3f3f3f3f, 0x3f3f3f3f, 0x3f3f3f3f, 0x3f3f3f3f), less >= 20 ? 2020 - less : -1);
            Due.is("bytes", y.count(8), less >= 20 ? 2020 - less : 2000 - less);
            Due.row("what came is read", Due.of(y.read(), y.place()), less >= 20 ? 1 : 0, less >= 20 ? 2000 - less : -1);
        }
        Twin.Calls full = y -> {
            past(y);
            for (int i = 0; i < 98; i++) {
                y.feed(0x20202020, 0x20202020, 0x20202020, 0x20202020, 0x20202020);
            }
            return y.back(1);
        };
        Twin.nothingHappens("feed behind 1979 and 20 that come", y -> {
            full.on(y);
            return y.feed(0x20202020, 0x20202020, 0x20202020, 0x20202020, 0x2020203b);
        }, y -> y.feed(0x3f202020, 0x20202020, 0x20202020, 0x20202020, 0x20202020), -1);
        Twin.comeToTheSame("a refused feed", y -> {
            full.on(y);
            y.feed(0x20202020, 0x20202020, 0x20202020, 0x20202020, 0x20202020);
            y.feed(0x3f202020, 0x20202020, 0x20202020, 0x20202020, 0x20202020);
            return y.back(20);
        }, full);
        // "Twenty bytes, the highest of a first": each byte by its place in its int, from the tape's begin on.
        for (int i = 0; i < 20; i++) {
            int[] words = {0x20202020, 0x20202020, 0x20202020, 0x20202020, 0x20202020};
            words[i / 4] ^= (0x20 ^ 0xff) << (24 - i % 4 * 8);
            CaseBefore y = new CaseBefore();
            y.feed(words[0], words[1], words[2], words[3], words[4]);
            Due.row("byte " + i, Due.of(y.read(), y.place()), 1, i);
        }
    }

    // Promise 3: "NONE, and nothing goes, if it has not so many, or n is below 0."
    private static void back() {
        for (int n : new int[] {-1, -20, LOW, 21, 22, 2001, HIGH}) {
            nothing("back(" + n + ")", x -> x.back(n), -1);
        }
        nothing("back(0)", x -> x.back(0), 20);
        CaseBefore x = new CaseBefore();
        Due.row("of nothing", Due.of(x.back(1), x.back(-1), x.back(0), x.count(8)), -1, -1, 0, 0);
        for (int n = 0; n <= 20; n++) {
            CaseBefore y = behindPast();
            Due.row("back(" + n + ")", Due.of(y.back(n), y.count(8), y.back(21 - n)), 20 - n, 20 - n, -1);
            // "before 9;case q 5 5;": read whole, to the end of its first half, to nothing, or with a fault at its end.
            boolean fine = n == 0 || n == 11 || n == 20;
            Due.is("read behind back(" + n + ")", y.read(), fine ? 0 : 1);
        }
        Twin.comeToTheSame("what went and came", y -> {
            past(y);
            y.feed(0x3f3f3f3f, 0x3f3f3f3f, 0x3f3f3f3f, 0x3f3f3f3f, 0x3f3f3f3f);
            y.back(20);
            y.back(4);
            Due.feed(y, " 5;;");
            y.back(1);
            return y.back(3) + y.feed(0x35203b20, 0x20202020, 0x20202020, 0x20202020, 0x20202020);
        }, y -> {
            past(y);
            y.back(4);
            return y.feed(0x35203b20, 0x20202020, 0x20202020, 0x20202020, 0x20202020);
        });
    }

    // Promise 4: "The tape, which is empty then, is read"
    private static void read() {
        CaseBefore x = behindPast();
        Due.row("read", Due.of(x.count(8), x.read(), x.count(8), x.count(0), x.count(3), x.docket(0, 0)), 20, 0, 0, 1, 9, 5);
        Due.row("read nothing", Due.of(x.read(), x.count(8), x.count(0), x.count(3)), 0, 0, 0, 0);
        Due.feed(x, "case");
        Due.row("a fault", Due.of(x.count(8), x.read(), x.count(8), x.back(1), x.back(0)), 4, 1, 0, -1, 0);
        Due.feed(x, " b 1 1;");
        Due.row("what was read is gone", Due.of(x.count(8), x.read(), x.place()), 7, 1, 1);
    }

    // Promise 5: "The byte of the latest read()'s FAULT; NONE without."
    private static void place() {
        CaseBefore x = new CaseBefore();
        Due.is("no read", x.place(), -1);
        String[] texts = {"?", "", "before 100;", "case a 1 1;", " ;", "seed", "case a 1 1;case a 1 1;", "doom=(((((((1", " "};
        long[] faults = {1, 0, 5, 0, 1, 1, 3, 2, 0};
        long[] places = {0, -1, 7, -1, 1, 4, 16, 11, -1};
        for (int i = 0; i < texts.length; i++) {
            long was = x.place();
            Due.feed(x, texts[i]);
            Due.row("ahead of the read, and then", Due.of(x.place(), x.read(), x.place(), x.place()), was, faults[i], places[i], places[i]);
        }
        Due.feed(x, "  ?");
        x.read();
        x.feed(0x3f3f3f3f, 0, 0, 0, 0);
        x.back(3);
        x.sessions(1);
        x.undo();
        x.hold(0);
        x.restore(0);
        Due.is("the latest read's, whatever comes", x.place(), 2);
    }

    // Promise 6: "what 0 .. 6; NONE for others", "-2: not on the LIST"
    private static void docket() {
        CaseBefore x = behindPast();
        long[][] want = {{40, 20, 0, 50, 1, 40, 50}, {60, 10, 2, 20, 0, 59, 50}, {0, 10, 3, 60, 0, 0, 50}, {20, 50, -2, 0, 0, 19, 50}, {70, 60, 1, 10, 0, 73, 50}};
        for (int d = 0; d < 5; d++) {
            long[] got = new long[7];
            for (int what = 0; what < 7; what++) {
                got[what] = x.docket(d, what);
            }
            Due.row("docket(" + d + ", ..)", got, want[d]);
        }
        for (int wrong : NOBODY) {
            for (int what : new int[] {0, 2, 6}) {
                nothing("docket(" + wrong + ", " + what + ")", y -> y.docket(wrong, what), -1);
            }
        }
        for (int wrong : new int[] {-1, -2, 7, 8, LOW, HIGH}) {
            nothing("docket(0, " + wrong + ")", y -> y.docket(0, wrong), -1);
            nothing("docket(3, " + wrong + ")", y -> y.docket(3, wrong), -1);
        }
    }

    // Promise 7: "Of a CASE on the LIST: what 0, 1. NONE for others."
    private static void suffers() {
        CaseBefore x = behindPast();
        // a FIRST for 70; e WEDGED behind a, which pleads: 40 + 4 - 1 less 13 + 5; b MIDST behind e: 70 + 1 - 2; c LAST behind b: 60 + 2 - 3.
        Due.row("suffers", Due.of(x.suffers(0, 0), x.suffers(4, 0), x.suffers(1, 0), x.suffers(2, 0)), 70, 12, 69, 59);
        Due.row("kinds", Due.of(x.suffers(0, 1), x.suffers(4, 1), x.suffers(1, 1), x.suffers(2, 1)), 0, 2, 4, 3);
        for (int wrong : NOBODY) {
            nothing("suffers(" + wrong + ", 0)", y -> y.suffers(wrong, 0), -1);
            nothing("suffers(" + wrong + ", 1)", y -> y.suffers(wrong, 1), -1);
        }
        for (int what : new int[] {0, 1}) {
            nothing("suffers(3, " + what + "), off the LIST", y -> y.suffers(3, what), -1);
        }
        for (int wrong : new int[] {-1, -2, 2, 3, LOW, HIGH}) {
            nothing("suffers(0, " + wrong + ")", y -> y.suffers(0, wrong), -1);
        }
    }

    // Promise 8: "Of a CASE for a deed (0 .. 99): what 0, 1, 2. NONE for others."
    private static void tells() {
        CaseBefore x = behindPast();
        Due.row("for 0", Due.of(x.tells(4, 0, 0), x.tells(4, 0, 1), x.tells(4, 0, 2)), 3, 5, 0);
        Due.row("for 1", Due.of(x.tells(4, 1, 0), x.tells(4, 1, 1), x.tells(4, 1, 2)), 4, 5, 0);
        Due.row("for 98", Due.of(x.tells(4, 98, 0), x.tells(4, 98, 1), x.tells(4, 98, 2)), 99, 37, 49);
        Due.row("for 99", Due.of(x.tells(2, 99, 0), x.tells(4, 99, 1), x.tells(4, 99, 2)), 98, 38, 49);
        Due.row("off the LIST", Due.of(x.tells(3, 20, 0), x.tells(3, 20, 1), x.tells(3, 20, 2)), 19, 11, 10);
        for (int wrong : NOBODY) {
            nothing("tells(" + wrong + ", 0, 0)", y -> y.tells(wrong, 0, 0), -1);
        }
        for (int wrong : new int[] {-1, 100, 101, LOW, HIGH}) {
            for (int what = 0; what <= 2; what++) {
                int which = what;
                nothing("tells(0, " + wrong + ", " + what + ")", y -> y.tells(0, wrong, which), -1);
            }
        }
        for (int wrong : new int[] {-1, 3, 4, LOW, HIGH}) {
            nothing("tells(0, 5, " + wrong + ")", y -> y.tells(0, 5, wrong), -1);
        }
    }

    // Promise 9: "NONE: no such place"
    private static void at() {
        CaseBefore x = behindPast();
        Due.row("at", Due.of(x.at(0), x.at(1), x.at(2), x.at(3)), 0, 4, 1, 2);
        for (int wrong : new int[] {-1, 4, 5, 6, 7, 8, LOW, HIGH}) {
            nothing("at(" + wrong + ")", y -> y.at(wrong), -1);
        }
        x = Due.told("case a 1 1;case b 1 1;case c 1 1;case d 1 1;case e 1 1;case f 1 1;case g 1 1;");
        Due.row("of seven", Due.of(x.at(5), x.at(6), x.at(7)), 5, 6, -1);
    }

    // Promise 10: "false, and nothing happens: one and the same, not on the LIST"
    private static void change() {
        for (int d = 0; d < 5; d++) {
            int one = d;
            nothing("change of one and the same, " + d, x -> Twin.bit(x.change(one, one)), 0);
            nothing("change(3, " + d + ")", x -> Twin.bit(x.change(3, one)), 0);
            nothing("change(" + d + ", 3)", x -> Twin.bit(x.change(one, 3)), 0);
        }
        for (int wrong : NOBODY) {
            nothing("change(" + wrong + ", 0)", x -> Twin.bit(x.change(wrong, 0)), 0);
            nothing("change(0, " + wrong + ")", x -> Twin.bit(x.change(0, wrong)), 0);
            nothing("change(" + wrong + ", " + wrong + ")", x -> Twin.bit(x.change(wrong, wrong)), 0);
        }
        long[][] want = {{4, 0, 1, 2}, {1, 4, 0, 2}, {2, 4, 1, 0}};
        int[] others = {4, 1, 2};
        for (int i = 0; i < 3; i++) {
            CaseBefore x = behindPast();
            Due.is("change", x.change(0, others[i]), true);
            Due.row("changed", Due.list(x), want[i]);
            Due.row("one thing more", Due.of(x.count(9), x.count(6)), 8, 1);
            CaseBefore y = behindPast();
            Due.is("change the other way about", y.change(others[i], 0), true);
            Due.row("changed alike", Due.list(y), want[i]);
        }
    }

    // Promise 11: "false, and nothing happens: it is there, not on the LIST, no such place"
    private static void go() {
        long[] list = {0, 4, 1, 2};
        for (int place = 0; place < 4; place++) {
            int there = place;
            nothing("go to where it is, " + place, x -> Twin.bit(x.go((int) list[there], there)), 0);
            nothing("go(3, " + place + ")", x -> Twin.bit(x.go(3, there)), 0);
        }
        for (int wrong : NOBODY) {
            nothing("go(" + wrong + ", 0)", x -> Twin.bit(x.go(wrong, 0)), 0);
        }
        for (int wrong : new int[] {-1, -2, 4, 5, 6, 7, 8, LOW, HIGH}) {
            nothing("go(0, " + wrong + ")", x -> Twin.bit(x.go(0, wrong)), 0);
            nothing("go(2, " + wrong + ")", x -> Twin.bit(x.go(2, wrong)), 0);
            nothing("go(3, " + wrong + ")", x -> Twin.bit(x.go(3, wrong)), 0);
        }
        for (int from = 0; from < 4; from++) {
            for (int to = 0; to < 4; to++) {
                if (from != to) {
                    CaseBefore x = behindPast();
                    Due.is("go", x.go((int) list[from], to), true);
                    long[] want = new long[4];
                    int next = 0;
                    for (int place = 0; place < 4; place++) {
                        next += next == from ? 1 : 0;
                        want[place] = place == to ? list[from] : list[next++];
                    }
                    Due.row("from " + from + " to " + to, Due.list(x), want);
                    Due.row("one thing more", Due.of(x.count(9), x.count(6)), 8, 1);
                }
            }
        }
    }

    // Promise 12: "false, and nothing happens: not on it"
    private static void off() {
        nothing("off(3)", x -> Twin.bit(x.off(3)), 0);
        for (int wrong : NOBODY) {
            nothing("off(" + wrong + ")", x -> Twin.bit(x.off(wrong)), 0);
        }
        long[][] want = {{4, 1, 2}, {0, 4, 2}, {0, 4, 1}, {}, {0, 1, 2}};
        for (int d : new int[] {0, 1, 2, 4}) {
            CaseBefore x = behindPast();
            Due.is("off", x.off(d), true);
            Due.row("off(" + d + ")", Due.list(x), want[d]);
            Due.row("then", Due.of(x.count(9), x.count(6), x.count(15), x.docket(d, 2), x.off(d) ? 1 : 0, x.count(9)), 8, d == 0 ? 0 : 1, 8 | 1 << d, -2, 0, 8);
        }
    }

    // Promise 13: "false, and nothing happens: on it, no such CASE"
    private static void on() {
        for (int d : new int[] {0, 1, 2, 4}) {
            nothing("on(" + d + ")", x -> Twin.bit(x.on(d)), 0);
        }
        for (int wrong : NOBODY) {
            nothing("on(" + wrong + ")", x -> Twin.bit(x.on(wrong)), 0);
        }
        CaseBefore x = behindPast();
        Due.is("on", x.on(3), true);
        Due.row("at the end", Due.list(x), 0, 4, 1, 2, 3);
        Due.row("then", Due.of(x.count(9), x.count(15), Twin.bit(x.on(3)), x.count(9)), 8, 0, 0, 8);
        x = Due.told("case a 1 1;case b 1 1;case c 1 1;case d 1 1;case e 1 1;case f 1 1;case g 1 1;");
        Due.row("seven", Due.of(Twin.bit(x.on(6)), Twin.bit(x.on(7)), Twin.bit(x.off(6)), Twin.bit(x.on(7)), Twin.bit(x.on(6)), x.count(1)), 0, 0, 1, 0, 1, 7);
    }

    // Promise 14: "NONE, and nothing happens: it does already, is not on the LIST, nobody is behind it, the PURSE there is less"
    private static void plead() {
        nothing("it pleads already", x -> x.plead(0), -1);
        nothing("not on the LIST", x -> x.plead(3), -1);
        nothing("nobody is behind it", x -> x.plead(2), -1);
        nothing("the PURSE there is less: 10 for 35", x -> x.plead(4), -1);
        for (int wrong : NOBODY) {
            nothing("plead(" + wrong + ")", x -> x.plead(wrong), -1);
        }
        CaseBefore x = behindPast();
        // b ahead of c: 30 of 10 is too much; c ahead of b: for nothing.
        Due.is("10 for 30", x.plead(1), -1);
        x.change(1, 2);
        Due.row("for nothing", Due.of(x.plead(2), x.docket(1, 1), x.count(6), x.count(9), x.plead(2), x.count(9)), 0, 10, 5, 9, -1, 9);
        for (int purse = 19; purse <= 21; purse++) {
            x = Due.told("case a 40 0;case b 9 " + purse + ";fee=20;");
            Due.row("20 of " + purse, Due.of(x.plead(0), x.docket(1, 1), x.docket(0, 4), x.count(9)), purse < 20 ? -1 : 20, purse < 20 ? purse : purse - 20,
                purse < 20 ? 0 : 1, purse < 20 ? 0 : 1);
        }
        x = Due.told("case a 40 50;");
        Due.row("alone", Due.of(x.plead(0), x.count(6)), -1, 0);
    }

    // Promise 15: "n SESSIONS (0 .. 40; 0 is no thing done) go by; NONE, and nothing happens: no such n"
    private static void sessions() {
        nothing("sessions(0)", x -> x.sessions(0), 1);
        for (int wrong : new int[] {-1, -2, 41, 42, 64, LOW, HIGH}) {
            nothing("sessions(" + wrong + ")", x -> x.sessions(wrong), -1);
        }
        for (int n : new int[] {1, 2, 39, 40}) {
            CaseBefore x = behindPast();
            Due.row("sessions(" + n + ")", Due.of(x.sessions(n), x.count(2), x.count(9), x.count(6), x.sessions(0), x.count(9)), 1 + n, 1 + n, 8, 0, 1 + n, 8);
            Due.row("undone as one thing", Due.of(Twin.bit(x.undo()), x.count(2), x.count(9), x.count(6), x.count(12)), 1, 1, 7, 1, 5);
        }
        Twin.comeToTheSame("ADJOURNED for ever, 0 of 40", x -> {
            past(x);
            return x.sessions(0);
        }, EdgePromiseTest::past);
    }

    // Promise 16: "undone: true; false: there is none"
    private static void undo() {
        Twin.nothingHappens("undo of a new text", x -> {
            Due.feed(x, PAST);
            return x.read();
        }, x -> Twin.bit(x.undo()), 0);
        Twin.nothingHappens("undo behind restore", x -> {
            past(x);
            return Twin.bit(x.restore(1));
        }, x -> Twin.bit(x.undo()), 0);
        Twin.nothingHappens("undo of all and once more", x -> {
            past(x);
            for (int i = 0; i < 7; i++) {
                Due.is("undo " + i, x.undo(), true);
            }
            return 0;
        }, x -> Twin.bit(x.undo()), 0);
        // Each thing done, and undone, is as not done; what is no thing done is not undone.
        Twin.Calls[] done = {x -> Twin.bit(x.change(0, 2)), x -> Twin.bit(x.go(2, 0)), x -> Twin.bit(x.off(0)), x -> Twin.bit(x.on(3)), x -> Twin.bit(x.change(2, 1)) + x.plead(2),
            x -> x.sessions(1), x -> x.sessions(40)};
        for (int i = 0; i < done.length; i++) {
            Twin.Calls one = done[i];
            int things = i == 4 ? 2 : 1;
            nothing("done and undone, " + i, x -> {
                one.on(x);
                Due.is("things done", x.count(9), 7 + things);
                long undone = 0;
                for (int j = 0; j < things; j++) {
                    undone += Twin.bit(x.undo());
                }
                return undone;
            }, things);
        }
        nothing("a refused thing is not undone", x -> {
            x.off(1);
            x.off(1);
            x.change(0, 0);
            x.plead(0);
            x.sessions(0);
            x.sessions(41);
            return Twin.bit(x.undo());
        }, 1);
        // What is told, held and on the tape is not undone.
        CaseBefore x = behindPast();
        x.tell(2, 2, true);
        x.hold(0);
        x.feed(0, 0, 0, 0, 0);
        Due.row("undo", Due.of(Twin.bit(x.undo()), x.count(10), x.count(11), x.count(8), x.count(9)), 1, 3, 2, 40, 6);
        Due.row("go is undone", Due.list(x), 0, 1, 2, 4);
    }

    // "the last 40 can be"
    private static void theLastForty() {
        for (int things : new int[] {1, 39, 40, 41, 42, 80, 81, 120}) {
            CaseBefore x = Due.told("case a 5 1;case b 5 1;case c 5 1;");
            for (int i = 0; i < things; i++) {
                x.sessions(1);
            }
            int last = Math.min(40, things);
            Due.is("things that can be undone of " + things, x.count(9), last);
            for (int i = 1; i <= last; i++) {
                Due.row("undo " + i + " of " + things, Due.of(Twin.bit(x.undo()), x.count(2), x.count(9)), 1, things - i, last - i);
            }
            Due.row("one more", Due.of(Twin.bit(x.undo()), x.count(2), x.count(9)), 0, things - last, 0);
            x.sessions(3);
            Due.row("goes on", Due.of(x.count(2), x.count(9), Twin.bit(x.undo()), x.count(2), Twin.bit(x.undo())), things - last + 3, 1, 1, things - last, 0);
        }
        // Undone and done by turns, across the edge.
        CaseBefore x = Due.told("case a 5 1;case b 5 1;");
        int session = 0;
        for (int i = 0; i < 30; i++) {
            x.sessions(1);
            x.sessions(1);
            x.sessions(1);
            Due.is("undo", x.undo(), true);
            session += 2;
            Due.row("by turns", Due.of(x.count(2), x.count(9)), session, Math.min(40 - (session >= 40 ? 1 : 0), session));
        }
    }

    // Promise 17: "NONE: no such GOAL, place"
    private static void best() {
        for (int wrong : new int[] {-1, -2, 4, 5, LOW, HIGH}) {
            for (int i : new int[] {-2, -1, 0, 3}) {
                nothing("best(" + wrong + ", " + i + ")", x -> x.best(wrong, i), -1);
            }
        }
        for (int goal = 0; goal <= 3; goal++) {
            int which = goal;
            for (int wrong : new int[] {-3, -4, 4, 5, 6, 7, LOW, HIGH}) {
                nothing("best(" + goal + ", " + wrong + ")", x -> x.best(which, wrong), -1);
            }
            CaseBefore x = behindPast();
            int bits = 0;
            for (int place = 0; place < 4; place++) {
                bits |= 1 << x.best(goal, place);
            }
            Due.row("all on the LIST", Due.of(bits, x.best(goal, -2) >= 1 && x.best(goal, -2) <= 24 ? 1 : 0), 16 + 4 + 2 + 1, 1);
        }
    }

    // Promise 18: "NONE: not on the LIST"
    private static void traders() {
        nothing("traders(3)", x -> x.traders(3), -1);
        for (int wrong : NOBODY) {
            nothing("traders(" + wrong + ")", x -> x.traders(wrong), -1);
        }
        // Each would with a, which suffers 50 as FIRST, and less behind; d suffers a quarter of its own as LAST, nothing as FIRST.
        CaseBefore x = Due.told("case a 5 0;case b 5 0;case c 5 0;case d 5 0;doom=if which<1 then 50-place else if which<3 then place*9 else 0;");
        Due.row("bits", Due.of(x.traders(0), x.traders(1), x.traders(2), x.traders(3), x.traders(4)), 14, 1, 1, 1, -1);
    }

    // Promise 19: "-100000: one and the same, not on the LIST"
    private static void gain() {
        for (int d = 0; d < 5; d++) {
            int one = d;
            nothing("gain(" + d + ", " + d + ")", x -> x.gain(one, one), -100000);
            nothing("gain(" + d + ", 3)", x -> x.gain(one, 3), -100000);
            nothing("gain(3, " + d + ")", x -> x.gain(3, one), -100000);
        }
        for (int wrong : NOBODY) {
            nothing("gain(0, " + wrong + ")", x -> x.gain(0, wrong), -100000);
            nothing("gain(" + wrong + ", 0)", x -> x.gain(wrong, 0), -100000);
            nothing("gain(" + wrong + ", " + wrong + ")", x -> x.gain(wrong, wrong), -100000);
        }
        CaseBefore x = Due.told("case a 9 0;case b 9 0;doom=which*place*30;");
        Due.row("0 .. 30 and the quarter, and back", Due.of(x.gain(0, 1), Twin.bit(x.change(1, 0)), x.gain(0, 1)), 30, 1, -30);
        x = Due.told("case a 9 0;case b 9 0;");
        Due.is("as much", x.gain(0, 1), 0);
    }

    // Promise 20: "-2: none; NONE: not on it"
    private static void behind() {
        CaseBefore x = behindPast();
        Due.row("behind", Due.of(x.behind(0), x.behind(4), x.behind(1), x.behind(2)), 4, 1, 2, -2);
        nothing("behind(2)", y -> y.behind(2), -2);
        nothing("behind(3)", y -> y.behind(3), -1);
        for (int wrong : NOBODY) {
            nothing("behind(" + wrong + ")", y -> y.behind(wrong), -1);
        }
    }

    // Promises 21, 22: "none on the LIST: 1"; "-2: not"
    private static void restsAndSettles() {
        nothing("rests", x -> x.rests() >= 0 && x.rests() <= 24 ? 1 : 0, 1);
        nothing("settles", x -> x.settles() >= -2 && x.settles() <= 50 && x.settles() != -1 ? 1 : 0, 1);
        CaseBefore x = new CaseBefore();
        Due.row("none on the LIST", Due.of(x.rests(), x.settles(), x.count(13)), 1, 0, 1);
        String q = "(which*57+place*338+deed*29+70)";
        Twin.nothingHappens("settles not", y -> {
            Due.feed(y, "case a 93 0;case b 64 0;case c 78 0;case d 89 0;case e 50 0;case f 15 0;case g 47 0;doom=" + q + "*" + q + "*14-" + q + "*" + q + "*14/79*79;");
            y.read();
            int[] list = {1, 4, 5, 2, 0, 6, 3};
            for (int place = 0; place < 7; place++) {
                y.go(list[place], place);
            }
            return 0;
        }, y -> y.settles(), -2);
    }

    // Promise 23: "what 0 who, 1 how much; -2: none on the LIST. NONE for others."
    private static void shunned() {
        CaseBefore x = behindPast();
        // For e's 70: a 70, b 70 + 1 - 2, c 70 + 2 - 3.
        Due.row("e", Due.of(x.shunned(0), x.shunned(1)), 4, 208);
        for (int wrong : new int[] {-1, -2, 2, 3, LOW, HIGH}) {
            nothing("shunned(" + wrong + ")", y -> y.shunned(wrong), -1);
            Due.is("shunned(" + wrong + ") of nobody", new CaseBefore().shunned(wrong), -1);
        }
        Due.row("nobody", Due.of(new CaseBefore().shunned(0), new CaseBefore().shunned(1)), -2, -2);
    }

    // Promise 24
    private static void buyers() {
        nothing("buyers", x -> x.buyers(), 0);
        CaseBefore x = Due.told("case a 9 9;case b 9 9;case c 9 9;case d 9 9;case e 9 9;case f 9 9;case g 9 9;fee=1;");
        Due.row("six", Due.of(x.buyers(), x.count(17)), 126, 6);
        x.plead(0);
        x.plead(5);
        Due.row("four", Due.of(x.buyers(), x.count(17)), 126 - 2 - 64, 4);
        Due.row("of nobody", Due.of(new CaseBefore().buyers(), new CaseBefore().count(17)), 0, 0);
    }

    // Promise 25: "-2: none on the LIST. NONE for others."
    private static void lighter() {
        for (int wrong : new int[] {-1, -2, 2, 3, LOW, HIGH}) {
            nothing("lighter(" + wrong + ")", y -> y.lighter(wrong), -1);
            Due.is("lighter(" + wrong + ") of nobody", new CaseBefore().lighter(wrong), -1);
        }
        Due.row("nobody", Due.of(new CaseBefore().lighter(0), new CaseBefore().lighter(1)), -2, -2);
        CaseBefore x = Due.told("case a 9 9;");
        Due.row("for none that is left", Due.of(x.lighter(0), x.lighter(1)), 0, 0);
    }

    // Promise 26: "NONE: not on the LIST, no such ones"
    private static void furthest() {
        for (int what : new int[] {0, 1}) {
            nothing("furthest(3, " + what + ")", x -> x.furthest(3, what), -1);
            for (int wrong : NOBODY) {
                nothing("furthest(" + wrong + ", " + what + ")", x -> x.furthest(wrong, what), -1);
            }
        }
        for (int wrong : new int[] {-1, -2, 2, 3, LOW, HIGH}) {
            nothing("furthest(0, " + wrong + ")", x -> x.furthest(0, wrong), -1);
        }
    }

    // Promise 27: "NONE: no such ones": a CASE off the LIST is one.
    private static void then() {
        for (int wrong : NOBODY) {
            nothing("then(" + wrong + ", 0)", x -> x.then(wrong, 0), -1);
        }
        for (int wrong : new int[] {-1, -2, 41, 42, LOW, HIGH}) {
            nothing("then(0, " + wrong + ")", x -> x.then(0, wrong), -1);
            nothing("then(3, " + wrong + ")", x -> x.then(3, wrong), -1);
        }
        nothing("then(3, 0)", x -> x.then(3, 0), 0);
        nothing("then(3, 40)", x -> x.then(3, 40), 0);
        nothing("then(0, 0)", x -> x.then(0, 0), 50);
        CaseBefore later = behindPast();
        later.sessions(40);
        nothing("then(0, 40)", x -> x.then(0, 40), later.docket(0, 3));
    }

    // Promise 28: "NONE: no such ones"
    private static void listIn() {
        for (int wrong : new int[] {-1, -2, 41, 42, LOW, HIGH}) {
            nothing("listIn(" + wrong + ", 0)", x -> x.listIn(wrong, 0), -1);
            nothing("listIn(" + wrong + ", 1)", x -> x.listIn(wrong, 1), -1);
        }
        for (int wrong : new int[] {-1, -2, 2, 3, LOW, HIGH}) {
            nothing("listIn(0, " + wrong + ")", x -> x.listIn(0, wrong), -1);
            nothing("listIn(40, " + wrong + ")", x -> x.listIn(40, wrong), -1);
        }
        nothing("listIn(0, 0)", x -> x.listIn(0, 0), 4);
        nothing("listIn(0, 1)", x -> x.listIn(0, 1), 70);
        nothing("listIn(40, 0)", x -> x.listIn(40, 0), 0);
    }

    // Promise 29: "NONE: no such ones": n 0 .. 40, s 1 .. 20, a CASE off the LIST is one.
    private static void year() {
        for (int wrong : NOBODY) {
            nothing("year(" + wrong + ", 0, 1)", x -> x.year(wrong, 0, 1), -1);
        }
        for (int wrong : new int[] {-1, -2, 41, 42, LOW, HIGH}) {
            nothing("year(0, " + wrong + ", 1)", x -> x.year(0, wrong, 1), -1);
            nothing("year(0, " + wrong + ", 20)", x -> x.year(0, wrong, 20), -1);
        }
        for (int wrong : new int[] {0, -1, 21, 22, LOW, HIGH}) {
            nothing("year(0, 0, " + wrong + ")", x -> x.year(0, 0, wrong), -1);
            nothing("year(0, 40, " + wrong + ")", x -> x.year(0, 40, wrong), -1);
        }
        nothing("year(3, 0, 20)", x -> x.year(3, 0, 20), 0);
        nothing("year(0, 0, 20)", x -> x.year(0, 0, 20), 20);
        nothing("year(0, 0, 1)", x -> x.year(0, 0, 1), 1);
        nothing("year(0, 40, 20)", x -> x.year(0, 40, 20), 0);
    }

    // Promise 30: "NONE, and nothing happens: 20 are there, no such ones"
    private static void tell() {
        for (int wrong : new int[] {-1, -2, 7, 8, LOW, HIGH}) {
            nothing("tell(" + wrong + ", 5, true)", x -> x.tell(wrong, 5, true), -1);
            nothing("tell(" + wrong + ", 5, false)", x -> x.tell(wrong, 5, false), -1);
        }
        for (int wrong : new int[] {-1, -2, 1000, 1001, LOW, HIGH}) {
            nothing("tell(0, " + wrong + ", true)", x -> x.tell(0, wrong, true), -1);
            nothing("tell(6, " + wrong + ", false)", x -> x.tell(6, wrong, false), -1);
        }
        Twin.Calls twenty = x -> {
            past(x);
            for (int i = 2; i < 20; i++) {
                Due.is("tell", x.tell(i % 4, i, true), i);
            }
            return x.count(10);
        };
        Twin.nothingHappens("tell of a 21st", twenty, x -> x.tell(0, 999, true), -1);
        Twin.nothingHappens("tell of a 21st, not so", twenty, x -> x.tell(6, 0, false), -1);
        Due.is("told is no thing done", behindPast().count(9), 7);
    }

    // Promise 31: "how many there were"
    private static void forget() {
        CaseBefore x = behindPast();
        Due.row("forget", Due.of(x.forget(), x.count(10), x.forget(), x.count(9), x.tell(3, 3, true), x.forget()), 2, 0, 0, 7, 0, 1);
        Twin.nothingHappens("forget of nothing", y -> {
            past(y);
            return y.forget();
        }, y -> y.forget(), 0);
        Due.is("of a new object", new CaseBefore().forget(), 0);
    }

    // Promise 32: "NONE: no such ones"
    private static void fits() {
        for (int wrong : new int[] {-1, -2, 3, 4, 20, 21, LOW, HIGH}) {
            nothing("fits(" + wrong + ", 0)", x -> x.fits(wrong, 0), -1);
            nothing("fits(" + wrong + ", 1)", x -> x.fits(wrong, 1), -1);
        }
        for (int wrong : new int[] {-1, -2, 2, 3, LOW, HIGH}) {
            nothing("fits(0, " + wrong + ")", x -> x.fits(0, wrong), -1);
            nothing("fits(2, " + wrong + ")", x -> x.fits(2, wrong), -1);
        }
        nothing("fits(0, 0)", x -> x.fits(0, 0), 24);
        nothing("fits(0, 1)", x -> x.fits(0, 1), 01 * 64 + 02 * 8 + 04);
    }

    // Promise 33: "ASK by v (0 .. 999), as KNOWN by k; -2: none FITS, none on the LIST; NONE: no such ones."
    private static void ask() {
        for (int wrong : new int[] {-1, -2, 3, 4, 20, 21, LOW, HIGH}) {
            nothing("ask(" + wrong + ", 5)", x -> x.ask(wrong, 5), -1);
        }
        for (int wrong : new int[] {-1, -2, 1000, 1001, LOW, HIGH}) {
            nothing("ask(0, " + wrong + ")", x -> x.ask(0, wrong), -1);
            nothing("ask(2, " + wrong + ")", x -> x.ask(2, wrong), -1);
        }
        nothing("ask(0, 0)", x -> x.ask(0, 0), 0);
        nothing("ask(0, 999)", x -> x.ask(0, 999), 0);
        CaseBefore x = behindPast();
        x.tell(4, 0, true);
        Due.row("none FITS", Due.of(x.fits(3, 0), x.ask(3, 0), x.ask(3, 999), x.ask(3, 1000), x.ask(4, 0)), 0, -2, -2, -1, -1);
    }

    // Promise 34: "SLOT (0 .. 2): true; false: no such one"
    private static void hold() {
        for (int wrong : new int[] {-1, -2, 3, 4, 31, 32, 33, LOW, HIGH}) {
            nothing("hold(" + wrong + ")", x -> Twin.bit(x.hold(wrong)), 0);
        }
        for (int slot = 0; slot <= 2; slot++) {
            CaseBefore x = behindPast();
            Due.row("hold(" + slot + ")", Due.of(Twin.bit(x.hold(slot)), x.count(11), x.count(9), x.count(10), x.count(8)), 1, slot == 1 ? 1 : 2, 7, 2, 20);
            x.sessions(2);
            x.change(0, 1);
            x.forget();
            x.back(5);
            Due.row("restore", Due.of(Twin.bit(x.restore(slot)), x.count(2), x.count(3), x.count(6), x.count(9), x.count(10), x.count(8), x.count(12), x.docket(1, 1)),
                1, 1, 70, 1, 0, 0, 15, 5, 10);
            Due.row("the list", Due.list(x), 0, 4, 1, 2);
        }
        CaseBefore x = behindPast();
        x.hold(0);
        x.hold(2);
        Due.is("three", x.count(11), 3);
        x.hold(2);
        Due.is("three still", x.count(11), 3);
    }

    // Promise 35: "false, and nothing happens: no such one, nothing is held"
    private static void restore() {
        for (int wrong : new int[] {0, 2, -1, -2, 3, 4, 31, 32, 33, 34, LOW, LOW + 1, HIGH}) {
            nothing("restore(" + wrong + ")", x -> Twin.bit(x.restore(wrong)), 0);
        }
        Twin.Calls all = x -> {
            past(x);
            x.hold(0);
            return Twin.bit(x.hold(2));
        };
        for (int wrong : new int[] {-1, -31, -32, 3, 4, 32, 33, 34, LOW, LOW + 1, HIGH}) {
            Twin.nothingHappens("restore(" + wrong + ") while all are held", all, x -> Twin.bit(x.restore(wrong)), 0);
        }
        CaseBefore x = behindPast();
        Due.row("restore(1)", Due.of(Twin.bit(x.restore(1)), x.count(9), Twin.bit(x.undo()), x.count(11), x.count(10), x.count(8)), 1, 0, 0, 1, 2, 20);
        Due.row("as it was held", Due.list(x), 0, 1, 2, 4);
        // That stays there, whatever is done then.
        x.sessions(1);
        x.on(3);
        x.off(0);
        Due.is("restore(1) again", x.restore(1), true);
        Due.row("as it was held, again", Due.list(x), 0, 1, 2, 4);
        Due.row("all of it", Due.of(x.count(2), x.count(3), x.count(5), x.count(6), x.count(7), x.count(12)), 1, 70, 140, 1, 150, 5);
        Twin.comeToTheSame("restored twice", y -> {
            past(y);
            y.restore(1);
            y.off(2);
            y.sessions(2);
            return Twin.bit(y.restore(1));
        }, y -> {
            past(y);
            return Twin.bit(y.restore(1));
        });
    }

    // Promise 36: "NONE for others"
    private static void count() {
        CaseBefore x = behindPast();
        long[] want = {5, 4, 1, 70, 70 + 12 + 69 + 59, 50 + 20 + 60 + 10, 1, 150, 20, 7, 2, 1, 5, x.count(13), 70, 8, 40 + 73 + 59 + 0, 0, x.count(18)};
        long[] got = new long[19];
        for (int what = 0; what < 19; what++) {
            got[what] = x.count(what);
        }
        Due.row("count", got, want);
        Due.is("LEAST and what it is less", x.best(0, -1) + x.count(18), x.count(4));
        for (int wrong : new int[] {-1, -2, 19, 20, 31, 32, LOW, HIGH}) {
            nothing("count(" + wrong + ")", y -> y.count(wrong), -1);
        }
        for (int what = 0; what <= 18; what++) {
            int which = what;
            nothing("count(" + what + ")", y -> y.count(which), got[what]);
        }
        // The ends of what is counted: 7 CASES of 99 and 99, all on the list, all off it.
        x = Due.told("case a 99 99;case b 99 99;case c 99 99;case d 99 99;case e 99 99;case f 99 99;case g 99 99;before 99;fee=0;plea=0;");
        for (int d = 0; d < 6; d++) {
            x.plead(d);
        }
        Due.row("the most", Due.of(x.count(0), x.count(1), x.count(4), x.count(6), x.count(7), x.count(14), x.count(15), x.count(16)), 7, 7, 99 * 7 + 24, 63, 693, 123, 0, 693);
        x.sessions(1);
        Due.row("the most, then", Due.of(x.count(1), x.count(4), x.count(5), x.count(6), x.count(12), x.count(14), x.count(15), x.count(16)), 0, 0, 717, 0, 7, 0, 127, 0);
    }
}
