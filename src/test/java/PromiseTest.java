/** Each promise by hand, by its number. */
public final class PromiseTest {
    // a FIRST, b WEDGED behind 40, c MIDST behind 60, d INNOCENT behind 0.
    private static final String FOUR = "case a 40 20;case b 60 30;case c 0 10;case d 20 5;before 50;";
    // a FIRST 40, b WEDGED 5; changed about: b FIRST 40, a LAST 20 and 2.
    private static final String TWO = "case a 10 8;case b 20 9;before 40;";
    // Each would have the other's place: a suffers 50 at place 0, b 50 and a quarter of 5 at place 1, else 0 (and 1 as LAST).
    private static final String CROSS = "case a 5 0;case b 5 0;doom=if which<1 then (1-place)*50 else place*50;";
    private static final int LOW = Integer.MIN_VALUE;
    private static final int HIGH = Integer.MAX_VALUE;

    public static void main(String[] args) {
        aNewObject();
        feedAndBack();
        readAndPlace();
        docket();
        suffers();
        tells();
        at();
        changeAndGo();
        offAndOn();
        plead();
        sessions();
        adjourned();
        undo();
        best();
        traders();
        gainAndBehind();
        restsAndSettles();
        settlesBehindFifty();
        settlesByTheLowest();
        shunned();
        buyers();
        lighter();
        furthest();
        thenAndListIn();
        year();
        tellAndForget();
        fits();
        ask();
        holdAndRestore();
        count();
        Due.end();
    }

    private static void each(String call, int[] got, int... want) {
        Due.is("answers of " + call, got.length, want.length);
        for (int i = 0; i < got.length && i < want.length; i++) {
            Due.is(call + " " + i, got[i], want[i]);
        }
    }

    private static int[] list(CaseBefore x) {
        int[] list = new int[x.count(1)];
        for (int i = 0; i < list.length; i++) {
            list[i] = x.at(i);
        }
        return list;
    }

    // Promise 1
    private static void aNewObject() {
        CaseBefore x = new CaseBefore();
        for (int what = 0; what <= 18; what++) {
            Due.is("count(" + what + ") of a new object", x.count(what), what == 13 ? 1 : 0);
        }
        Due.is("place() of a new object", x.place(), -1);
        Due.is("at(0) of a new object", x.at(0), -1);
        Due.is("best(1, -1) of a new object", x.best(1, -1), 0);
        Due.is("best(3, -2) of a new object", x.best(3, -2), 1);
        Due.is("best(3, 0) of a new object", x.best(3, 0), -1);
        Due.is("rests() of a new object", x.rests(), 1);
        Due.is("settles() of a new object", x.settles(), 0);
        Due.is("shunned(0) of a new object", x.shunned(0), -2);
        Due.is("shunned(2) of a new object", x.shunned(2), -1);
        Due.is("lighter(1) of a new object", x.lighter(1), -2);
        Due.is("lighter(-1) of a new object", x.lighter(-1), -1);
        Due.is("fits(0, 0) of a new object", x.fits(0, 0), 1);
        Due.is("fits(0, 1) of a new object", x.fits(0, 1), 0);
        Due.is("ask(0, 0) of a new object", x.ask(0, 0), -2);
        Due.is("sessions(2) of a new object", x.sessions(2), 2);
        Due.is("NONE", CaseBefore.NONE, -1);
    }

    // Promises 2, 3
    private static void feedAndBack() {
        CaseBefore x = new CaseBefore();
        Due.is("back(0) of nothing", x.back(0), 0);
        Due.is("back(1) of nothing", x.back(1), -1);
        for (int i = 1; i <= 100; i++) {
            Due.is("feed " + i, x.feed(i, -i, 0, HIGH, LOW), 20 * i);
        }
        Due.is("feed above 2000", x.feed(0, 0, 0, 0, 0), -1);
        Due.is("count(8)", x.count(8), 2000);
        Due.is("back(-1)", x.back(-1), -1);
        Due.is("back(LOW)", x.back(LOW), -1);
        Due.is("back(HIGH)", x.back(HIGH), -1);
        Due.is("back(2001)", x.back(2001), -1);
        Due.is("back(0)", x.back(0), 2000);
        Due.is("back(19)", x.back(19), 1981);
        Due.is("feed above 2000 by one", x.feed(0, 0, 0, 0, 0), -1);
        Due.is("back(1)", x.back(1), 1980);
        Due.is("feed to 2000", x.feed(0, 0, 0, 0, 0), 2000);
        Due.is("back(2000)", x.back(2000), 0);
        Due.is("feed the highest first", x.feed(0x62656677, 0, 0, 0, 0), 20);
        x.back(17);
        x.feed(0x6f726520, 0x37303b20, 0x20202020, 0x20202020, 0x20202020);
        Due.is("read", x.read(), 0);
        Due.is("before 70", x.count(3), 70);
    }

    // Promises 4, 5; the rest of them is in TextTest
    private static void readAndPlace() {
        CaseBefore x = new CaseBefore();
        Due.feed(x, "before 70; seed");
        Due.is("read", x.read(), 1);
        Due.is("place", x.place(), 15);
        Due.is("place once more", x.place(), 15);
        Due.is("count(8)", x.count(8), 0);
        Due.is("count(3)", x.count(3), 0);
        Due.is("read of what is empty", x.read(), 0);
        Due.is("place", x.place(), -1);
        Due.feed(x, FOUR);
        Due.is("read", x.read(), 0);
        Due.is("count(0)", x.count(0), 4);
        Due.feed(x, "before 100;");
        Due.is("read", x.read(), 5);
        Due.is("place", x.place(), 7);
        Due.is("count(0)", x.count(0), 4);
    }

    // Promise 6
    private static void docket() {
        CaseBefore x = Due.told(FOUR + "doom=deed+place;adjourns=200-own*10;fee=3;");
        for (int what = 0; what <= 6; what++) {
            int[][] want = {{40, 60, 0, 20}, {20, 30, 10, 5}, {0, 1, 2, 3}, {0, 0, 0, 0}, {0, 0, 0, 0}, {40, 61, 2, 23}, {0, 0, 100, 0}};
            for (int d = 0; d < 4; d++) {
                Due.is("docket(" + d + ", " + what + ")", x.docket(d, what), want[what][d]);
            }
            Due.is("docket(-1, " + what + ")", x.docket(-1, what), -1);
            Due.is("docket(4, " + what + ")", x.docket(4, what), -1);
        }
        for (int wrong : new int[] {-1, 7, LOW, HIGH}) {
            Due.is("docket(0, " + wrong + ")", x.docket(0, wrong), -1);
            Due.is("docket(" + wrong + ", 0)", x.docket(wrong, 0), -1);
        }
        x.off(1);
        Due.is("place off the list", x.docket(1, 2), -2);
        Due.is("DUE off the list, its place how many are on it", x.docket(1, 5), 63);
        Due.is("deed off the list", x.docket(1, 0), 60);
        x.plead(0);
        Due.is("pleads", x.docket(0, 4), 1);
        Due.is("purse behind it", x.docket(2, 1), 7);
        x.sessions(1);
        Due.is("suffered", x.docket(0, 3), 50);
        Due.is("pleads no more", x.docket(0, 4), 0);
        Due.is("purse still", x.docket(2, 1), 7);
        Due.is("c was ADJOURNED", x.docket(2, 2), 0);
    }

    // Promise 7
    private static void suffers() {
        CaseBefore x = Due.told(FOUR);
        int[] much = {50, 20, 60, 0};
        int[] kinds = {0, 2, 4, 1};
        for (int d = 0; d < 4; d++) {
            Due.is("suffers(" + d + ", 0)", x.suffers(d, 0), much[d]);
            Due.is("suffers(" + d + ", 1)", x.suffers(d, 1), kinds[d]);
            Due.is("suffers(" + d + ", 2)", x.suffers(d, 2), -1);
            Due.is("suffers(" + d + ", -1)", x.suffers(d, -1), -1);
        }
        Due.is("suffers(4, 0)", x.suffers(4, 0), -1);
        Due.is("suffers(-1, 0)", x.suffers(-1, 0), -1);
        Due.is("suffers(LOW, 1)", x.suffers(LOW, 1), -1);
        Due.is("suffers(HIGH, 1)", x.suffers(HIGH, 1), -1);
        x.off(3);
        Due.is("suffers off the list", x.suffers(3, 0), -1);
        Due.is("LAST: 60 and a quarter of 0", x.suffers(2, 0), 60);
        Due.is("kind LAST", x.suffers(2, 1), 3);

        // Halves and quarters are rounded down; alike deeds are not WEDGED; WEDGED goes ahead of LAST.
        x = Due.told("case a 33 0;case b 33 0;case c 34 0;case d 7 0;before 9;");
        each("odd", new int[] {x.suffers(0, 0), x.suffers(1, 0), x.suffers(2, 0), x.suffers(3, 0)}, 9, 33, 16, 34 + 1);
        each("kinds", new int[] {x.suffers(0, 1), x.suffers(1, 1), x.suffers(2, 1), x.suffers(3, 1)}, 0, 4, 2, 3);
        x.off(3);
        Due.is("WEDGED at the last place", x.suffers(2, 1), 2);
        Due.is("WEDGED suffers half", x.suffers(2, 0), 16);

        // FIRST suffers by its own DOOM even for nothing left over, INNOCENT nothing whatever DOOM is.
        x = Due.told("case a 0 0;case b 0 0;doom=deed+7;");
        each("nothing left over", new int[] {x.suffers(0, 0), x.suffers(1, 0)}, 7, 0);

        // A plea takes PLEA from DOOM, of the one that suffers, 0 at least, ahead of the half and the quarter.
        x = Due.told("case a 20 0;case b 30 9;case c 12 9;doom=deed+which;plea=if which<2 then 6 else deed+50;fee=0;");
        each("no plea", new int[] {x.suffers(1, 0), x.suffers(2, 0)}, 10, 32 + 3);
        x.plead(0);
        x.plead(1);
        each("pleas", new int[] {x.suffers(1, 0), x.suffers(2, 0)}, 7, 0 + 3);
    }

    // Promise 8
    private static void tells() {
        CaseBefore x = Due.told("case a 10 50;case b 20 60;doom=deed+which;plea=deed-50;fee=deed+own*purse;");
        Due.is("DOOM", x.tells(1, 30, 0), 31);
        Due.is("DOOM held to 99", x.tells(1, 99, 0), 99);
        Due.is("PLEA", x.tells(1, 60, 1), 10);
        Due.is("PLEA held to 0", x.tells(1, 49, 1), 0);
        Due.is("FEE held to 99", x.tells(0, 0, 2), 99);
        Due.is("deed 0", x.tells(0, 0, 0), 0);
        for (int wrong : new int[] {-1, 100, LOW, HIGH}) {
            Due.is("tells(0, " + wrong + ", 0)", x.tells(0, wrong, 0), -1);
            Due.is("tells(" + wrong + ", 0, 0)", x.tells(wrong, 0, 0), -1);
            Due.is("tells(0, 0, " + wrong + ")", x.tells(0, 0, wrong), -1);
        }
        Due.is("tells(2, 0, 0)", x.tells(2, 0, 0), -1);
        Due.is("tells(0, 0, 3)", x.tells(0, 0, 3), -1);
        x = Due.told("case a 10 50;");
        each("laws not told", new int[] {x.tells(0, 99, 0), x.tells(0, 99, 1), x.tells(0, 99, 2), x.docket(0, 6)}, 99, 49, 24, 0);
    }

    // Promise 9
    private static void at() {
        CaseBefore x = Due.told(FOUR);
        each("at", list(x), 0, 1, 2, 3);
        for (int wrong : new int[] {-1, 4, 7, LOW, HIGH}) {
            Due.is("at(" + wrong + ")", x.at(wrong), -1);
        }
        x.off(0);
        Due.is("at(3)", x.at(3), -1);
        Due.is("at(0)", x.at(0), 1);
    }

    // Promises 10, 11
    private static void changeAndGo() {
        CaseBefore x = Due.told(FOUR);
        Due.is("change(0, 2)", x.change(0, 2), true);
        each("changed", list(x), 2, 1, 0, 3);
        Due.is("change(3, 2)", x.change(3, 2), true);
        each("changed again", list(x), 3, 1, 0, 2);
        Due.is("change(1, 1)", x.change(1, 1), false);
        x.off(1);
        for (int wrong : new int[] {-1, 1, 4, LOW, HIGH}) {
            Due.is("change(0, " + wrong + ")", x.change(0, wrong), false);
            Due.is("change(" + wrong + ", 0)", x.change(wrong, 0), false);
            Due.is("go(" + wrong + ", 0)", x.go(wrong, 0), false);
        }
        Due.is("change(1, 1) off the list", x.change(1, 1), false);
        Due.is("things done", x.count(9), 3);
        x.undo();
        Due.is("go(3, 2)", x.go(3, 2), true);
        each("gone back", list(x), 1, 0, 3, 2);
        Due.is("go(2, 0)", x.go(2, 0), true);
        each("gone ahead", list(x), 2, 1, 0, 3);
        Due.is("go(2, 3)", x.go(2, 3), true);
        each("gone to the end", list(x), 1, 0, 3, 2);
        Due.is("go(2, 3) is there", x.go(2, 3), false);
        for (int wrong : new int[] {-1, 4, 7, LOW, HIGH}) {
            Due.is("go(0, " + wrong + ")", x.go(0, wrong), false);
        }
        each("nothing happened", list(x), 1, 0, 3, 2);
        Due.is("things done", x.count(9), 5);
        // A plea goes with its case.
        x = Due.told(FOUR);
        x.plead(0);
        x.go(0, 3);
        Due.is("still pleads", x.docket(0, 4), 1);
        x.change(0, 1);
        each("a pleads ahead of c", new int[] {x.at(0), x.at(1), x.suffers(2, 0), x.count(6)}, 0, 2, 20, 1);
    }

    // Promises 12, 13
    private static void offAndOn() {
        CaseBefore x = Due.told("case a 40 20;case b 60 30;case c 0 20;case d 20 5;before 50;");
        x.plead(1);
        Due.is("off(1)", x.off(1), true);
        each("without b", list(x), 0, 2, 3);
        Due.is("b pleads no more", x.count(6), 0);
        Due.is("off(1) again", x.off(1), false);
        Due.is("on(0)", x.on(0), false);
        for (int wrong : new int[] {-1, 4, 7, LOW, HIGH}) {
            Due.is("off(" + wrong + ")", x.off(wrong), false);
            Due.is("on(" + wrong + ")", x.on(wrong), false);
        }
        Due.is("things done", x.count(9), 2);
        Due.is("on(1)", x.on(1), true);
        each("b at the end", list(x), 0, 2, 3, 1);
        Due.is("b does not plead", x.count(6), 0);
        Due.is("on(1) again", x.on(1), false);
        for (int d = 0; d < 4; d++) {
            x.off(d);
        }
        Due.is("none", x.count(1), 0);
        x.on(2);
        each("c alone", list(x), 2);
        Due.is("c is FIRST", x.suffers(2, 0), 50);
    }

    // Promise 14
    private static void plead() {
        CaseBefore x = Due.told(FOUR);
        Due.is("plead(0): FEE of b for 40", x.plead(0), 10);
        Due.is("b paid", x.docket(1, 1), 20);
        Due.is("a pleads", x.docket(0, 4), 1);
        Due.is("b suffers half of 40 less 20", x.suffers(1, 0), 10);
        Due.is("plead(0) again", x.plead(0), -1);
        Due.is("plead(1): c has not 15", x.plead(1), -1);
        Due.is("c has all", x.docket(2, 1), 10);
        Due.is("b does not plead", x.docket(1, 4), 0);
        Due.is("plead(3): nobody is behind", x.plead(3), -1);
        Due.is("plead(2): FEE for 0", x.plead(2), 0);
        for (int wrong : new int[] {-1, 4, 7, LOW, HIGH}) {
            Due.is("plead(" + wrong + ")", x.plead(wrong), -1);
        }
        Due.is("things done", x.count(9), 2);
        Due.is("who pleads", x.count(6), 5);
        x.off(1);
        Due.is("plead off the list", x.plead(1), -1);
        // The FEE is that of the case behind; a purse of just so much is enough.
        x = Due.told("case a 1 0;case b 1 7;case c 1 6;fee=if which<1 then 50 else 7;");
        Due.is("just so much", x.plead(0), 7);
        Due.is("one less", x.plead(1), -1);
        Due.is("purse", x.docket(1, 1), 0);
    }

    // Promise 15
    private static void sessions() {
        CaseBefore x = Due.told(FOUR);
        x.plead(0);
        Due.is("sessions(0)", x.sessions(0), 0);
        Due.is("sessions(0) is no thing done", x.count(9), 1);
        Due.is("a pleads still", x.count(6), 1);
        for (int wrong : new int[] {-1, 41, LOW, HIGH}) {
            Due.is("sessions(" + wrong + ")", x.sessions(wrong), -1);
        }
        Due.is("sessions(1)", x.sessions(1), 1);
        int[] suffered = {50, 10, 60, 0};
        for (int d = 0; d < 4; d++) {
            Due.is("suffered " + d, x.docket(d, 3), suffered[d]);
            Due.is("off " + d, x.docket(d, 2), -2);
        }
        each("by then", new int[] {x.count(1), x.count(3), x.count(5), x.count(6), x.count(9), x.count(12)}, 0, 20, 120, 0, 2, 4);
        Due.is("sessions(40)", x.sessions(40), 41);
        each("with none", new int[] {x.count(1), x.count(3), x.count(5), x.count(12)}, 0, 20, 120, 4);
        x.on(1);
        Due.is("b for what d left", x.suffers(1, 0), 20);
        Due.is("one session more", x.sessions(1), 42);
        Due.is("b suffered both", x.docket(1, 3), 30);
        each("judged, left, added", new int[] {x.count(12), x.count(3), x.count(5)}, 5, 60, 140);
        Due.is("sessions(0)", x.sessions(0), 42);
    }

    private static void adjourned() {
        // Of each case the law is its LOT in session 0, or one more: at one more it is ADJOURNED.
        int[] lots = {Due.lot(77, 0), Due.lot(77, 1), Due.lot(77, 2)};
        for (int bits = 0; bits < 8; bits++) {
            int[] law = new int[3];
            for (int d = 0; d < 3; d++) {
                law[d] = lots[d] + (bits >> d & 1);
            }
            CaseBefore x = Due.told("case a 10 9;case b 20 9;case c 30 9;before 5;seed 77;adjourns=if which<1 then " + law[0]
                + " else if which<2 then " + law[1] + " else " + law[2] + ";");
            x.plead(1);
            int[] would = {5, 5, 10};
            Due.is("one session", x.sessions(1), 1);
            int stays = 0;
            int left = 5;
            for (int d = 0; d < 3; d++) {
                boolean stay = (bits >> d & 1) == 1;
                Due.is("place of " + d + " by " + bits, x.docket(d, 2), stay ? stays++ : -2);
                Due.is("suffered of " + d + " by " + bits, x.docket(d, 3), stay ? 0 : d == 2 ? 5 : would[d]);
                left = stay ? left : 10 * d + 10;
            }
            each("by " + bits, new int[] {x.count(1), x.count(3), x.count(6), x.count(12)}, stays, left, 0, 3 - stays);
        }
        // In the second session the LOT is that of 8 and the number.
        int second = Due.lot(4, 8 + 1);
        for (int more = 0; more <= 1; more++) {
            CaseBefore x = Due.told("case a 10 9;case b 20 9;seed 4;adjourns=if session<1 then which*100 else " + (second + more) + ";");
            Due.is("two sessions", x.sessions(2), 2);
            Due.is("b by " + more, x.count(1), more);
        }
        // SEED is 0 if it is not told.
        for (int more = 0; more <= 1; more++) {
            CaseBefore x = Due.told("case a 10 9;adjourns=" + (Due.lot(0, 0) + more) + ";");
            x.sessions(1);
            Due.is("by SEED 0, " + more, x.count(1), more);
        }
        // All adjourned: what was left over stays.
        CaseBefore x = Due.told("case a 10 9;case b 20 9;before 33;adjourns=100;");
        x.sessions(40);
        each("adjourned for ever", new int[] {x.count(1), x.count(2), x.count(3), x.count(12)}, 2, 40, 33, 0);
    }

    // Promise 16
    private static void undo() {
        CaseBefore x = Due.told(FOUR + "adjourns=if which<1 then 100 else 0;");
        Due.is("nothing to undo", x.undo(), false);
        x.change(0, 1);
        x.go(3, 0);
        x.off(2);
        x.on(2);
        x.plead(0);
        x.sessions(2);
        Due.is("things done", x.count(9), 6);
        Due.is("undo sessions", x.undo(), true);
        each("sessions undone", list(x), 3, 1, 0, 2);
        each("state", new int[] {x.count(2), x.count(3), x.count(5), x.count(6), x.count(12)}, 0, 50, 0, 1, 0);
        Due.is("undo plead", x.undo(), true);
        each("plead undone", new int[] {x.count(6), x.docket(2, 1)}, 0, 10);
        Due.is("undo on", x.undo(), true);
        each("on undone", list(x), 3, 1, 0);
        Due.is("undo off", x.undo(), true);
        each("off undone", list(x), 3, 1, 0, 2);
        Due.is("undo go", x.undo(), true);
        each("go undone", list(x), 1, 0, 2, 3);
        Due.is("undo change", x.undo(), true);
        each("change undone", list(x), 0, 1, 2, 3);
        Due.is("nothing left to undo", x.undo(), false);
        for (int i = 0; i < 43; i++) {
            x.go(0, i % 2 == 0 ? 3 : 0);
        }
        Due.is("the last 40", x.count(9), 40);
        for (int i = 0; i < 40; i++) {
            Due.is("undo " + i, x.undo(), true);
        }
        Due.is("no more than 40", x.undo(), false);
        each("three are not undone", list(x), 1, 2, 3, 0);
        x.change(0, 1);
        each("goes on", list(x), 0, 2, 3, 1);
        x.undo();
        each("back again", list(x), 1, 2, 3, 0);
    }

    // Promise 17
    private static void best() {
        CaseBefore x = Due.told(TWO);
        each("LEAST", new int[] {x.best(0, -1), x.best(0, -2), x.best(0, 0), x.best(0, 1), x.best(0, 2)}, 45, 1, 0, 1, -1);
        each("MOST", new int[] {x.best(1, -1), x.best(1, -2), x.best(1, 0), x.best(1, 1), x.best(1, 2)}, 62, 1, 1, 0, -1);
        // a b: 30 more than 10 and 15 less than 20; b a: 20 more than 20 and 12 more than 10.
        each("NEAREST", new int[] {x.best(2, -1), x.best(2, -2), x.best(2, 0), x.best(2, 1)}, 32, 1, 1, 0);
        each("MILDEST", new int[] {x.best(3, -1), x.best(3, -2), x.best(3, 0), x.best(3, 1)}, 40, 2, 0, 1);
        for (int wrong : new int[] {-1, 4, LOW, HIGH}) {
            Due.is("best(" + wrong + ", -1)", x.best(wrong, -1), -1);
            Due.is("best(" + wrong + ", -2)", x.best(wrong, -2), -1);
        }
        for (int wrong : new int[] {-3, 2, 7, LOW, HIGH}) {
            Due.is("best(0, " + wrong + ")", x.best(0, wrong), -1);
        }
        x.change(0, 1);
        Due.is("the order now is no matter", x.best(0, 0), 0);
        // PLEADING as now: b a, b pleads: a suffers 20 less 10 and 2; a b: 5.
        Due.is("b pleads", x.plead(1), 5);
        each("MOST with a plea", new int[] {x.best(1, -1), x.best(1, 0)}, 52, 1);
        x.off(0);
        each("one", new int[] {x.best(0, -1), x.best(0, -2), x.best(0, 0), x.best(0, 1)}, 40, 1, 1, -1);
        // DUE is by the place that one would have.
        x = Due.told("case a 9 0;case b 9 0;doom=if which<1 then place*10 else 50-place*10;");
        // a b: a 0 and due 0, b 40+2 and due 40: 2; b a: b 50 and due 50, a 10+2 and due 10: 2.
        each("NEAREST by DUE there", new int[] {x.best(2, -1), x.best(2, -2), x.best(2, 0)}, 2, 2, 0);
        // INNOCENT suffers 0 but is DUE by its own place: a b: 10 and 10, 0 and 21; b a: 11 and 11, 0 and 20.
        x = Due.told("case a 0 0;case b 0 0;doom=10+which+place*10;");
        each("NEAREST with an INNOCENT", new int[] {x.best(2, -1), x.best(2, -2), x.best(2, 0)}, 20, 1, 1);
        x = Due.told("case a 9 0;case b 9 0;doom=9;");
        each("MOST of alike ones", new int[] {x.best(1, -1), x.best(1, -2), x.best(1, 0), x.best(1, 1)}, 20, 2, 0, 1);
        // Seven alike: every order is as good; the first is by the lowest.
        x = Due.told("case a 0 0;case b 0 0;case c 0 0;case d 0 0;case e 0 0;case f 0 0;case g 0 0;");
        x.go(0, 6);
        each("seven", new int[] {x.best(0, -1), x.best(0, -2), x.best(0, 0), x.best(0, 6), x.best(0, 7)}, 0, 5040, 0, 6, -1);
    }

    // Promise 18
    private static void traders() {
        CaseBefore x = Due.told(CROSS);
        each("both would", new int[] {x.traders(0), x.traders(1), x.traders(2), x.traders(-1)}, 2, 1, -1, -1);
        x.change(0, 1);
        each("neither would", new int[] {x.traders(0), x.traders(1)}, 0, 0);
        x.off(1);
        each("off the list", new int[] {x.traders(1), x.traders(0)}, -1, 0);
        x = Due.told(TWO);
        each("only one would", new int[] {x.traders(0), x.traders(1)}, 0, 0);
        // A third between: a and c would, b (who suffers 0 anywhere) would not.
        x = Due.told("case a 5 0;case b 5 0;case c 5 0;doom=if which<1 then (2-place)*20 else if which<2 then 0 else place*20;");
        each("of three", new int[] {x.traders(0), x.traders(1), x.traders(2)}, 4, 0, 1);
        Due.is("traders(HIGH)", x.traders(HIGH), -1);
        Due.is("traders(LOW)", x.traders(LOW), -1);
        // As much is not less.
        x = Due.told("case a 5 0;case b 5 0;doom=if which<1 then 10 else place*50;");
        Due.is("a would suffer more as LAST", x.traders(0), 0);
    }

    // Promises 19, 20
    private static void gainAndBehind() {
        CaseBefore x = Due.told(TWO);
        each("gain below 0", new int[] {x.gain(0, 1), x.gain(1, 0)}, -17, -17);
        each("no two", new int[] {x.gain(0, 0), x.gain(0, 2), x.gain(-1, 0), x.gain(LOW, HIGH)}, -100000, -100000, -100000, -100000);
        x.change(0, 1);
        Due.is("gain above 0", x.gain(0, 1), 17);
        each("behind", new int[] {x.behind(1), x.behind(0), x.behind(2), x.behind(-1), x.behind(HIGH), x.behind(LOW)}, 0, -2, -1, -1, -1, -1);
        x.off(1);
        each("off", new int[] {x.behind(0), x.behind(1), x.gain(0, 1)}, -2, -1, -100000);
    }

    // Promises 21, 22
    private static void restsAndSettles() {
        CaseBefore x = Due.told(CROSS);
        each("cross", new int[] {x.rests(), x.settles(), x.count(13)}, 1, 1, 0);
        each("nothing happened", list(x), 0, 1);
        x.change(0, 1);
        each("at rest", new int[] {x.rests(), x.settles(), x.count(13)}, 1, 0, 1);
        x = Due.told(TWO);
        each("nobody trades", new int[] {x.rests(), x.settles()}, 2, 0);
        // A list that never rests: a d (0 and 3) and others change about for ever.
        String round = "(which*15+place*15+6)";
        String large = "(" + round + "*" + round + "*83+deed*77)";
        String endless = "case a 2 0;case b 5 0;case c 4 0;case d 3 0;doom=" + large + "-" + large + "/58*58;";
        x = Due.told(endless);
        Due.is("settles never", x.settles(), -2);
        Due.is("not at rest", x.count(13), 0);
        Model m = model(endless);
        Due.is("the model settles never", m.settles(), -2);
        Due.is("rests as the model's", x.rests(), m.rests());
        x = Due.told("case a 0 0;case b 0 0;case c 0 0;doom=0;");
        each("none suffers", new int[] {x.rests(), x.settles()}, 6, 0);
        x = Due.told("case a 0 0;case b 0 0;case c 0 0;case d 0 0;case e 0 0;case f 0 0;case g 0 0;");
        Due.is("all orders of seven", x.rests(), 5040);
    }

    // The edge of SETTLES: a list that rests behind just 50 changes, and one behind 51.
    private static void settlesBehindFifty() {
        String q = "(which*57+place*338+deed*29+70)";
        String text = "case a 93 0;case b 64 0;case c 78 0;case d 89 0;case e 50 0;case f 15 0;case g 47 0;"
            + "doom=" + q + "*" + q + "*14-" + q + "*" + q + "*14/79*79;";
        Due.is("behind 50", ordered(text, 0, 2, 4, 3, 5, 6, 1).settles(), 50);
        Due.is("behind 51", ordered(text, 1, 4, 5, 2, 0, 6, 3).settles(), -2);
    }

    private static CaseBefore ordered(String text, int... dockets) {
        CaseBefore x = Due.told(text);
        for (int place = 0; place < dockets.length; place++) {
            x.go(dockets[place], place);
        }
        each("ordered", list(x), dockets);
        return x;
    }

    // Which two change first decides behind how many the list rests: compared with the model, by turns from other orders.
    private static void settlesByTheLowest() {
        String text = "case a 0 0;case b 1 0;case c 1 0;doom=if which<1 then 20-place*10 else if which<2 then place*(2-place)*30 else place*place*10-place*5;";
        CaseBefore x = Due.told(text);
        Model m = model(text);
        for (int i = 0; i < 6; i++) {
            each("by turns " + i, new int[] {x.settles(), x.rests(), x.traders(0), x.traders(1), x.traders(2)},
                m.settles(), m.rests(), m.traders(0), m.traders(1), m.traders(2));
            x.go(i % 3, 0);
            m.go(i % 3, 0);
        }
    }

    private static Model model(String text) {
        Model m = new Model();
        int[] w = Due.words(text);
        for (int i = 0; i < w.length; i += 5) {
            m.feed(w[i], w[i + 1], w[i + 2], w[i + 3], w[i + 4]);
        }
        Due.is("the model reads", m.read(), 0);
        return m;
    }

    // Promise 23
    private static void shunned() {
        CaseBefore x = Due.told(FOUR);
        each("b, by three", new int[] {x.shunned(0), x.shunned(1), x.shunned(2), x.shunned(-1), x.shunned(LOW)}, 1, 180, -1, -1, -1);
        x.off(1);
        each("a, by two", new int[] {x.shunned(0), x.shunned(1)}, 0, 80);
        x.off(0);
        x.off(3);
        each("one alone", new int[] {x.shunned(0), x.shunned(1)}, 2, 0);
        x.off(2);
        each("none", new int[] {x.shunned(0), x.shunned(1), x.shunned(2)}, -2, -2, -1);
        x = Due.told("case a 5 0;case b 9 0;case c 9 0;");
        x.change(1, 2);
        each("the lowest of alike ones", new int[] {x.shunned(0), x.shunned(1)}, 1, 18);
        // Each other one by its own DOOM, where it stands: a: b's 1*5 and c's 2*5; b: 0 and 2*6.
        x = Due.told("case a 5 0;case b 6 0;case c 1 0;doom=deed*place;");
        each("by places", new int[] {x.shunned(0), x.shunned(1)}, 0, 15);
    }

    // Promise 24
    private static void buyers() {
        // b: half of 40, or half of 40 less 20: 10 less, for 10. c: 60 or 30, for 15, of 10.
        CaseBefore x = Due.told(FOUR);
        Due.is("none", x.buyers(), 0);
        x = Due.told("case a 40 0;case b 20 10;case c 20 99;case d 21 99;fee=deed/4;");
        // b: 40 or 20, for 10, has it: buys. c: 20 or 10, for 5: buys. d: 10 or 5, for 5: 5 is not more than 5.
        Due.is("b and c", x.buyers(), 6);
        Due.is("how many", x.count(17), 2);
        x.plead(0);
        Due.is("a pleads already", x.buyers(), 4);
        x.undo();
        x.off(0);
        Due.is("b is FIRST now", x.buyers(), 4);
        // One short.
        x = Due.told("case a 40 0;case b 20 9;");
        Due.is("the purse is less", x.buyers(), 0);
        // The plea is looked at by DOOM (pled), too; the FEE as it is now.
        x = Due.told("case a 40 0;case b 20 40;doom=deed-pled*5;plea=0;fee=4+pled*9;");
        Due.is("DOOM is less by the plea", x.buyers(), 2);
        x = Due.told("case a 40 0;case b 20 40;doom=deed-pled*5;plea=0;fee=5-pled*5;");
        Due.is("the FEE is as now", x.buyers(), 0);
        // FEE as theirs: of b 9 for 40 by its own place and number, of c 10 (20 or 10) is as much.
        x = Due.told("case a 40 0;case b 20 10;case c 20 40;fee=if which<2 then place*9 else which*5;");
        Due.is("each by its own FEE", x.buyers(), 2);
        x = Due.told("case a 40 0;case b 20 40;fee=which*20-1;");
        Due.is("FEE of b, not of a: 19", x.buyers(), 2);
        x = Due.told("case a 40 0;case b 20 40;fee=20-which;plea=18;");
        Due.is("FEE of b, not of a: 19 for 18", x.buyers(), 0);
        x = Due.told("case a 0 0;case b 20 40;fee=0;");
        Due.is("INNOCENT", x.buyers(), 0);
    }

    // Promise 25
    private static void lighter() {
        CaseBefore x = Due.told(FOUR);
        // Without a: 50 60 0; b: 50 40 0; c: 50 20 60+5; d: 50 20 60.
        each("b", new int[] {x.lighter(0), x.lighter(1), x.lighter(2), x.lighter(-1), x.lighter(HIGH)}, 1, 90, -1, -1, -1);
        x.off(1);
        x.off(2);
        // Without a: d for 50; without d: a for 50.
        each("alike", new int[] {x.lighter(0), x.lighter(1)}, 0, 50);
        x.off(0);
        each("one alone", new int[] {x.lighter(0), x.lighter(1)}, 3, 0);
        x.off(3);
        each("none", new int[] {x.lighter(0), x.lighter(1), x.lighter(5)}, -2, -2, -1);
        x.undo();
        each("nothing happened", list(x), 3);
        // The laws look at the list as it would be.
        x = Due.told("case a 9 0;case b 9 0;case c 9 0;doom=cases*10+which;");
        // Without a: b 21, c 22+2; b: a 20, c 24; c: a 20, b 21+2.
        each("cases are two then", new int[] {x.lighter(0), x.lighter(1)}, 2, 43);
    }

    // Promise 26
    private static void furthest() {
        CaseBefore x = Due.told(FOUR);
        // a: at 0 50; at 1 (b a c d) MIDST behind 60: 60; at 2 (b c a d) INNOCENT; at 3 (b c d a) WEDGED: 10.
        each("a", new int[] {x.furthest(0, 0), x.furthest(0, 1)}, 2, 0);
        // d: at 0 50; at 1 behind a MIDST 40; at 2 behind b 60; staying behind c 0.
        each("d stays", new int[] {x.furthest(3, 0), x.furthest(3, 1)}, 3, 0);
        for (int wrong : new int[] {-1, 2, LOW, HIGH}) {
            Due.is("furthest(0, " + wrong + ")", x.furthest(0, wrong), -1);
        }
        for (int wrong : new int[] {-1, 4, LOW, HIGH}) {
            Due.is("furthest(" + wrong + ", 0)", x.furthest(wrong, 0), -1);
        }
        x.off(2);
        Due.is("furthest off the list", x.furthest(2, 0), -1);
        each("nothing happened", list(x), 0, 1, 3);
        x = Due.told("case a 9 0;case b 9 0;case c 9 0;doom=7;");
        each("the first of alike ones", new int[] {x.furthest(2, 0), x.furthest(2, 1)}, 0, 7);
    }

    // Promises 27, 28
    private static void thenAndListIn() {
        CaseBefore x = Due.told(FOUR);
        each("in no session", new int[] {x.then(0, 0), x.listIn(0, 0), x.listIn(0, 1)}, 0, 4, 50);
        each("in one", new int[] {x.then(0, 1), x.then(1, 1), x.then(2, 1), x.then(3, 1), x.listIn(1, 0), x.listIn(1, 1)}, 50, 20, 60, 0, 0, 20);
        each("in forty", new int[] {x.then(1, 40), x.listIn(40, 0), x.listIn(40, 1)}, 20, 0, 20);
        for (int wrong : new int[] {-1, 41, LOW, HIGH}) {
            each("in " + wrong, new int[] {x.then(0, wrong), x.listIn(wrong, 0), x.listIn(wrong, 1), x.listIn(0, wrong)}, -1, -1, -1, -1);
        }
        each("nobody", new int[] {x.then(-1, 1), x.then(4, 1), x.then(HIGH, 1), x.listIn(1, 2)}, -1, -1, -1, -1);
        each("nothing happened", new int[] {x.count(2), x.count(1), x.count(9), x.count(5)}, 0, 4, 0, 0);
        x.sessions(1);
        x.on(1);
        x.on(0);
        // b FIRST suffers 20 for what d left; a LAST 60 and 10.
        each("so far and by then", new int[] {x.then(1, 0), x.then(1, 1), x.then(0, 1), x.listIn(1, 1)}, 20, 40, 50 + 70, 40);
        x = Due.told("case a 10 9;case b 20 9;before 33;adjourns=if session<3 then 100 else if session<4 then which*100 else 0;");
        each("adjourned", new int[] {x.listIn(3, 0), x.listIn(4, 0), x.listIn(5, 0), x.listIn(3, 1), x.listIn(4, 1), x.listIn(5, 1)}, 2, 1, 0, 33, 10, 20);
        each("adjourned then", new int[] {x.then(0, 3), x.then(0, 4), x.then(1, 4), x.then(1, 5)}, 0, 33, 0, 10);
    }

    // Promise 29
    private static void year() {
        CaseBefore x = Due.told("case a 10 9;case b 20 9;seed 9990;adjourns=60;");
        int[] one = new int[2];
        int[] two = new int[2];
        for (int seed = 9990; seed < 9990 + 20; seed++) {
            for (int d = 0; d < 2; d++) {
                boolean stays = Due.lot(seed, d) < 60;
                one[d] += stays ? 1 : 0;
                two[d] += stays && Due.lot(seed, 8 + d) < 60 ? 1 : 0;
            }
        }
        each("year", new int[] {x.year(0, 1, 20), x.year(1, 1, 20), x.year(0, 2, 20), x.year(1, 2, 20)}, one[0], one[1], two[0], two[1]);
        each("by one seed", new int[] {x.year(0, 0, 1), x.year(0, 0, 20), x.year(0, 1, 1)}, 1, 20, Due.lot(9990, 0) < 60 ? 1 : 0);
        for (int wrong : new int[] {-1, 41, LOW, HIGH}) {
            Due.is("year(0, " + wrong + ", 1)", x.year(0, wrong, 1), -1);
        }
        for (int wrong : new int[] {0, -1, 21, LOW, HIGH}) {
            Due.is("year(0, 1, " + wrong + ")", x.year(0, 1, wrong), -1);
        }
        for (int wrong : new int[] {2, -1, LOW, HIGH}) {
            Due.is("year(" + wrong + ", 1, 1)", x.year(wrong, 1, 1), -1);
        }
        x.off(0);
        Due.is("off the list", x.year(0, 0, 20), 0);
        x.on(0);
        int session = x.sessions(3);
        Due.is("nothing happened but three sessions", session, 3);
        x.undo();
        Due.is("adjourned all 40", Due.told("case a 1 1;adjourns=100;").year(0, 40, 20), 20);
    }

    // Promises 30, 31
    private static void tellAndForget() {
        CaseBefore x = Due.told(TWO);
        Due.is("forget nothing", x.forget(), 0);
        for (int wrong : new int[] {-1, 7, LOW, HIGH}) {
            Due.is("tell(" + wrong + ", 1, true)", x.tell(wrong, 1, true), -1);
        }
        for (int wrong : new int[] {-1, 1000, LOW, HIGH}) {
            Due.is("tell(0, " + wrong + ", false)", x.tell(0, wrong, false), -1);
        }
        Due.is("told so far", x.count(10), 0);
        for (int i = 0; i < 20; i++) {
            Due.is("tell " + i, x.tell(i % 7, 999 - i * 50, i % 2 == 0), i);
        }
        Due.is("the 21st", x.tell(0, 0, true), -1);
        Due.is("told", x.count(10), 20);
        x.change(0, 1);
        x.undo();
        x.hold(0);
        x.restore(0);
        Due.is("told still", x.count(10), 20);
        Due.is("forget", x.forget(), 20);
        Due.is("forgotten", x.count(10), 0);
        Due.is("tell anew", x.tell(6, 0, false), 0);
    }

    // Promise 32
    private static void fits() {
        CaseBefore x = Due.told(TWO);
        // a b: 40 5; b a: 40 22.
        each("nothing known", new int[] {x.fits(0, 0), x.fits(0, 1)}, 2, 1);
        x.tell(1, 22, true);
        x.tell(0, 40, true);
        x.tell(1, 22, false);
        each("place 1 suffers 22 or more", new int[] {x.fits(1, 0), x.fits(1, 1)}, 1, 8);
        each("and place 0 40 or more", new int[] {x.fits(2, 0), x.fits(2, 1)}, 1, 8);
        each("so and not so", new int[] {x.fits(3, 0), x.fits(3, 1)}, 0, -2);
        each("no such", new int[] {x.fits(4, 0), x.fits(-1, 0), x.fits(0, 2), x.fits(0, -1), x.fits(LOW, 0), x.fits(HIGH, 1)}, -1, -1, -1, -1, -1, -1);
        x.forget();
        x.tell(1, 22, false);
        x.tell(2, 0, true);
        each("not so", new int[] {x.fits(1, 0), x.fits(1, 1)}, 1, 1);
        each("of a place not there nothing is so", new int[] {x.fits(2, 0), x.fits(2, 1)}, 0, -2);
        x.forget();
        x.tell(2, 0, false);
        each("nor not so", new int[] {x.fits(1, 0), x.fits(1, 1), x.fits(0, 0)}, 0, -2, 2);
        x.off(0);
        x.off(1);
        each("of nobody", new int[] {x.fits(0, 0), x.fits(0, 1), x.fits(1, 0), x.fits(1, 1)}, 1, 0, 0, -2);
        x = Due.told("case a 0 0;case b 0 0;case c 0 0;case d 0 0;case e 0 0;case f 0 0;case g 0 0;doom=0;");
        each("seven", new int[] {x.fits(0, 0), x.fits(0, 1)}, 5040, 1 * 4096 * 8 + 2 * 4096 + 3 * 512 + 4 * 64 + 5 * 8 + 6);
        x.off(0);
        each("six", new int[] {x.fits(0, 0), x.fits(0, 1)}, 720, 1 * 4096 * 8 + 2 * 4096 + 3 * 512 + 4 * 64 + 5 * 8 + 6);
    }

    // Promise 33
    private static void ask() {
        CaseBefore x = Due.told(TWO);
        // Place 0 suffers 40 in both; place 1 suffers 5 or 22.
        each("ask", new int[] {x.ask(0, 40), x.ask(0, 22), x.ask(0, 23), x.ask(0, 5), x.ask(0, 6)}, 0, 1, 0, 0, 1);
        for (int wrong : new int[] {-1, 1000, LOW, HIGH}) {
            Due.is("ask(0, " + wrong + ")", x.ask(0, wrong), -1);
        }
        for (int wrong : new int[] {-1, 1, LOW, HIGH}) {
            Due.is("ask(" + wrong + ", 0)", x.ask(wrong, 0), -1);
        }
        each("the edges of v", new int[] {x.ask(0, 0), x.ask(0, 999)}, 0, 0);
        // a FIRST suffers 10, b FIRST 30, c FIRST 50, all else 0: only place 0 parts the orders.
        CaseBefore y = Due.told("case a 0 0;case b 0 0;case c 0 0;doom=10+which*20;");
        each("place 0 parts best", new int[] {y.ask(0, 30), y.ask(0, 31), y.fits(0, 0)}, 0, 0, 6);
        // Behind a nobody suffers; b and c as LAST suffer 52, all others 50: place 2 tells 52 from less, places 1 and 2 alike 0 from more.
        y = Due.told("case a 0 0;case b 9 0;case c 9 0;doom=50;");
        each("place 1 parts worse than place 2", new int[] {y.ask(0, 51), y.ask(0, 1)}, 2, 1);
        x.tell(1, 22, true);
        x.tell(0, 41, true);
        each("one left", new int[] {x.ask(1, 22), x.ask(2, 22), x.ask(3, 22)}, 0, -2, -1);
        x.off(0);
        x.off(1);
        each("none on the list", new int[] {x.ask(0, 5), x.ask(0, 1000), x.ask(3, 5)}, -2, -1, -1);
    }

    // Promises 34, 35
    private static void holdAndRestore() {
        CaseBefore x = Due.told(FOUR);
        for (int wrong : new int[] {-1, 3, 32, LOW, HIGH}) {
            Due.is("hold(" + wrong + ")", x.hold(wrong), false);
            Due.is("restore(" + wrong + ")", x.restore(wrong), false);
        }
        Due.is("restore of nothing held", x.restore(0), false);
        x.plead(0);
        x.tell(0, 1, true);
        Due.is("hold(0)", x.hold(0), true);
        Due.is("hold is no thing done", x.count(9), 1);
        x.sessions(1);
        x.on(3);
        Due.is("hold(2)", x.hold(2), true);
        Due.is("slots", x.count(11), 2);
        x.tell(0, 2, true);
        Due.feed(x, "case");
        Due.is("restore(1)", x.restore(1), false);
        Due.is("things done", x.count(9), 3);
        Due.is("restore(0)", x.restore(0), true);
        each("as it was", list(x), 0, 1, 2, 3);
        each("all of it", new int[] {x.count(2), x.count(3), x.count(5), x.count(6), x.count(7), x.count(12), x.count(9)}, 0, 50, 0, 1, 55, 0, 0);
        each("not what is told, nor the tape", new int[] {x.count(10), x.count(8)}, 2, 4);
        Due.is("nothing can be undone", x.undo(), false);
        x.off(0);
        Due.is("restore(2)", x.restore(2), true);
        each("as it was by then", new int[] {x.count(1), x.at(0), x.count(2), x.count(3), x.count(5), x.count(12)}, 1, 3, 1, 20, 120, 4);
        Due.is("restore(0) again", x.restore(0), true);
        each("it stays there", list(x), 0, 1, 2, 3);
        x.off(1);
        Due.is("hold(0) anew", x.hold(0), true);
        x.undo();
        Due.is("slots", x.count(11), 2);
        x.restore(0);
        each("the last held", list(x), 0, 2, 3);
        x.on(1);
        x.undo();
        each("undone behind restore", list(x), 0, 2, 3);
        x.hold(1);
        Due.is("all slots", x.count(11), 3);
        for (int wrong : new int[] {-1, -32, 3, 32, 33, LOW, HIGH}) {
            Due.is("restore(" + wrong + ") while all are held", x.restore(wrong), false);
        }
        CaseBefore y = new CaseBefore();
        each("of no text", new int[] {y.hold(1) ? 1 : 0, y.sessions(3), y.restore(1) ? 1 : 0, y.count(2)}, 1, 3, 1, 0);
    }

    // Promise 36
    private static void count() {
        CaseBefore x = Due.told(FOUR);
        x.plead(0);
        x.off(3);
        x.tell(0, 1, true);
        x.hold(1);
        Due.feed(x, "seed ");
        // On the list a b c: 50, half of 20, 60; DUE 40 60 0. Without a plea c would not buy: 15 of 10.
        int[] want = {4, 3, 0, 50, 120, 0, 1, 55, 5, 2, 1, 1, 0, -9, 60, 8, 100, 0, -9};
        for (int what = 0; what < want.length; what++) {
            if (want[what] != -9) {
                Due.is("count(" + what + ")", x.count(what), want[what]);
            }
        }
        // LEAST of a b c: c a b: 50 0 10.
        Due.is("count(18)", x.count(18), 60);
        // b and c would change: c 20 behind a that pleads, b 0 behind c.
        Due.is("count(13)", x.count(13), 0);
        for (int wrong : new int[] {-1, 19, LOW, HIGH}) {
            Due.is("count(" + wrong + ")", x.count(wrong), -1);
        }
        x.sessions(1);
        int[] then = {4, 0, 1, 0, 0, 120, 0, 55, 5, 3, 1, 1, 3, 1, 0, 15, 0, 0, 0};
        for (int what = 0; what < then.length; what++) {
            Due.is("count(" + what + ") then", x.count(what), then[what]);
        }
        Due.is("FIRST suffers most", Due.told(TWO).count(14), 40);
        x = Due.told(CROSS);
        each("cross", new int[] {x.count(4), x.count(13), x.count(14), x.count(16), x.count(18)}, 101, 0, 51, 100, 100);
    }
}
