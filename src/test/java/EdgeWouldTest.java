import java.util.ArrayList;
import java.util.Arrays;
import java.util.List;

/**
 * Each sentence of sections III and IV that names an edge. What would be in another order, or were something done, is also found by
 * making that order, or doing it, on an object of the same past, and asking there.
 */
public final class EdgeWouldTest {
    private static final String[] TEXTS = {
        "case a 40 20;case b 60 30;case c 0 10;case d 20 5;before 50;",
        "case a 40 20;case b 60 30;case c 10 30;case d 20 15;before 50;doom=deed+which*7-place*3;plea=deed/3+place;fee=deed/8;",
        "case a 9 9;case b 9 9;case c 9 9;case d 9 9;doom=if which<2 then (3-place)*20 else place*20;fee=0;plea=5;",
        "case a 0 0;case b 0 0;case c 0 0;before 9;",
        "case a 12 9;case b 12 9;case c 12 9;case d 7 9;fee=1;doom=(deed+which*place*13)-(deed+which*place*13)/23*23;",
        "case a 30 20;case b 60 30;case c 10 30;case d 20 15;case e 30 9;before 50;fee=2;doom=deed*cases/3+pled*4;adjourns=80-which*20;seed 9;",
        "case a 30 20;case b 31 30;doom=60-place*10-deed/2;fee=0;",
        "case a 30 20;",
        ""};

    public static void main(String[] args) {
        asIfThatWereTheList();
        howManyOrders();
        bestOfAlikeOnes();
        eachWouldSufferLess();
        gainMayBeBelowNought();
        noneOnTheList();
        oneOnTheList();
        settlesBehindHowMany();
        shunnedOfAlikeOnes();
        buyersAtTheEdges();
        lighterOfAlikeOnes();
        furthestOfAlikeOnes();
        inSessions();
        yearBySeeds();
        toldAtTheEdges();
        twentyAtMost();
        knownByTheFirst();
        placeThatIsNotThere();
        theFirstThatFits();
        askOfAlikeOnes();
        nothingIsAdjournedNorHappens();
        noneRatherThanMinusTwo();
        Due.end();
    }

    // ---- orders that are made

    /** One order of the list, made by hand: what each suffers and is due by places, and whether it rests. */
    private static final class Made {
        long[] row;
        long[] suffers;
        long[] dues;
        boolean rests;

        long worth(int goal) {
            long so = 0;
            for (int i = 0; i < row.length; i++) {
                so = goal < 2 ? so + suffers[i] : goal == 2 ? so + Math.abs(suffers[i] - dues[i]) : Math.max(so, suffers[i]);
            }
            return so;
        }

        long number() {
            long number = 0;
            for (long d : row) {
                number = 8 * number + d;
            }
            return number;
        }
    }

    private static CaseBefore of(Twin.Calls past) {
        CaseBefore x = new CaseBefore();
        past.on(x);
        return x;
    }

    private static void orders(long[] rest, int from, List<long[]> all) {
        if (from == rest.length) {
            all.add(rest.clone());
            return;
        }
        for (int i = from; i < rest.length; i++) {
            long[] next = rest.clone();
            next[from] = rest[i];
            System.arraycopy(rest, from, next, from + 1, i - from);
            orders(next, from + 1, all);
        }
    }

    private static List<Made> made(Twin.Calls past) {
        long[] sorted = Due.list(of(past));
        Arrays.sort(sorted);
        List<long[]> rows = new ArrayList<>();
        orders(sorted, 0, rows);
        List<Made> all = new ArrayList<>();
        for (long[] row : rows) {
            CaseBefore y = of(past);
            for (int place = 0; place < row.length; place++) {
                y.go((int) row[place], place);
            }
            Made m = new Made();
            m.row = Due.list(y);
            Due.is("the order is made", Arrays.equals(m.row, row), true);
            m.suffers = new long[row.length];
            m.dues = new long[row.length];
            for (int place = 0; place < row.length; place++) {
                m.suffers[place] = y.suffers((int) row[place], 0);
                m.dues[place] = y.docket((int) row[place], 5);
            }
            m.rests = y.count(13) == 1;
            all.add(m);
        }
        return all;
    }

    // Some have pleaded, one is off the list, one was judged and is back at the end, if there are so many.
    private static Twin.Calls past(String text, int sort) {
        return x -> {
            Due.feed(x, text);
            Due.is("read", x.read(), 0);
            if (sort == 1) {
                x.plead(0);
                x.plead(2);
                x.go(0, x.count(1) - 1);
            } else if (sort == 2) {
                x.sessions(1);
                for (int d = 0; d < x.count(0); d++) {
                    x.on(d);
                }
                x.plead(x.at(1));
                x.off(1);
            }
            return 0;
        };
    }

    // "each SUFFERS and is DUE as if that were the LIST (PLEADING as now)"
    private static void asIfThatWereTheList() {
        for (String text : TEXTS) {
            for (int sort = 0; sort <= 2; sort++) {
                Twin.Calls past = past(text, sort);
                List<Made> all = made(past);
                String name = " by " + sort + " of " + text;
                bestByHand(name, of(past), all);
                restsByHand(name, of(past), all);
                fitsByHand(name, past, all);
                tradeByHand(name, past);
                settleByHand(name, past);
                lighterAndFurthestByHand(name, past);
                laterByHand(name, past);
            }
        }
    }

    private static void bestByHand(String name, CaseBefore x, List<Made> all) {
        for (int goal = 0; goal <= 3; goal++) {
            Made best = null;
            int ways = 0;
            for (Made m : all) {
                long more = best == null ? 0 : m.worth(goal) - best.worth(goal);
                if (best == null || (goal == 1 ? more > 0 : more < 0)) {
                    best = m;
                    ways = 0;
                    more = 0;
                }
                ways += more == 0 ? 1 : 0;
            }
            Due.is("best(" + goal + ", -1)" + name, x.best(goal, -1), best.worth(goal));
            Due.is("best(" + goal + ", -2)" + name, x.best(goal, -2), ways);
            for (int place = 0; place <= 7; place++) {
                Due.is("best(" + goal + ", " + place + ")" + name, x.best(goal, place), place < best.row.length ? best.row[place] : -1);
            }
            if (goal == 0) {
                Due.is("count(18)" + name, x.count(18), x.count(4) - best.worth(0));
            }
        }
    }

    private static void restsByHand(String name, CaseBefore x, List<Made> all) {
        int rests = 0;
        for (Made m : all) {
            rests += m.rests ? 1 : 0;
        }
        Due.is("rests()" + name, x.rests(), rests);
    }

    // Tells of each place of the list one row after the other, and asks behind each.
    private static void fitsByHand(String name, Twin.Calls past, List<Made> all) {
        CaseBefore x = of(past);
        int size = x.count(1);
        List<Made> left = new ArrayList<>(all);
        for (int k = 0; k <= size; k++) {
            Due.is("fits(" + k + ", 0)" + name, x.fits(k, 0), left.size());
            Due.is("fits(" + k + ", 1)" + name, x.fits(k, 1), left.isEmpty() ? -2 : left.get(0).number());
            for (int v = 0; v <= 100; v += 7) {
                Due.is("ask(" + k + ", " + v + ")" + name, x.ask(k, v), askByHand(left, size, v));
            }
            if (k < size) {
                int place = (k * 2 + 1) % size;
                long v = all.get(all.size() / 3).suffers[place] + k % 2;
                boolean so = k % 2 == 0;
                Due.is("tell" + name, x.tell(place, (int) v, so), k);
                left.removeIf(m -> (m.suffers[place] >= v) != so);
            }
        }
    }

    private static int askByHand(List<Made> left, int size, int v) {
        int where = -2;
        int fewest = Integer.MAX_VALUE;
        for (int place = 0; place < size && !left.isEmpty(); place++) {
            int so = 0;
            for (Made m : left) {
                so += m.suffers[place] >= v ? 1 : 0;
            }
            if (Math.max(so, left.size() - so) < fewest) {
                where = place;
                fewest = Math.max(so, left.size() - so);
            }
        }
        return where;
    }

    // "Two TRADE if each would SUFFER less, were their places changed about"; GAIN.
    private static void tradeByHand(String name, Twin.Calls past) {
        CaseBefore x = of(past);
        boolean rests = true;
        for (int a = 0; a < x.count(0); a++) {
            int bits = 0;
            for (int b = 0; b < x.count(0); b++) {
                CaseBefore y = of(past);
                long[] were = {y.suffers(a, 0), y.suffers(b, 0)};
                int all = y.count(4);
                if (y.change(a, b)) {
                    bits |= y.suffers(a, 0) < were[0] && y.suffers(b, 0) < were[1] ? 1 << b : 0;
                    Due.is("gain(" + a + ", " + b + ")" + name, x.gain(a, b), all - y.count(4));
                } else {
                    Due.is("gain(" + a + ", " + b + ")" + name, x.gain(a, b), -100000);
                }
            }
            Due.is("traders(" + a + ")" + name, x.traders(a), x.docket(a, 2) < 0 ? -1 : bits);
            rests &= bits == 0;
        }
        Due.is("count(13)" + name, x.count(13), rests ? 1 : 0);
    }

    private static void settleByHand(String name, Twin.Calls past) {
        CaseBefore y = of(past);
        int changed = 0;
        while (changed <= 50 && y.count(13) == 0) {
            int a = 0;
            while (y.traders(a) <= 0) {
                a++;
            }
            y.change(a, Integer.numberOfTrailingZeros(y.traders(a)));
            changed++;
        }
        Due.is("settles()" + name, of(past).settles(), changed > 50 ? -2 : changed);
    }

    private static void lighterAndFurthestByHand(String name, Twin.Calls past) {
        CaseBefore x = of(past);
        int who = -2;
        int least = -2;
        for (int d = 0; d < x.count(0); d++) {
            CaseBefore y = of(past);
            if (!y.off(d)) {
                continue;
            }
            if (who < 0 || y.count(4) < least) {
                who = d;
                least = y.count(4);
            }
            int where = -1;
            int there = 0;
            for (int place = 0; place < x.count(1); place++) {
                CaseBefore z = of(past);
                z.go(d, place);
                if (where < 0 || z.suffers(d, 0) < there) {
                    where = place;
                    there = z.suffers(d, 0);
                }
            }
            Due.row("furthest(" + d + ")" + name, Due.of(x.furthest(d, 0), x.furthest(d, 1)), where, there);
        }
        Due.row("lighter" + name, Due.of(x.lighter(0), x.lighter(1)), who, least);
    }

    private static void laterByHand(String name, Twin.Calls past) {
        CaseBefore x = of(past);
        for (int n : new int[] {0, 1, 2, 40}) {
            CaseBefore y = of(past);
            y.sessions(n);
            Due.row("listIn(" + n + ")" + name, Due.of(x.listIn(n, 0), x.listIn(n, 1)), y.count(1), y.count(3));
            for (int d = 0; d < x.count(0); d++) {
                Due.is("then(" + d + ", " + n + ")" + name, x.then(d, n), y.docket(d, 3));
                Due.is("year(" + d + ", " + n + ", 1)" + name, x.year(d, n, 1), y.docket(d, 2) < 0 ? 0 : 1);
            }
        }
    }

    // ---- by hand

    private static String alike(int n, int deed) {
        StringBuilder s = new StringBuilder();
        for (int i = 0; i < n; i++) {
            s.append("case ").append((char) ('a' + i)).append(' ').append(deed).append(" 0;");
        }
        return s.toString();
    }

    // "An ORDER: all on the LIST, in any row": 0 .. 7 of them.
    private static void howManyOrders() {
        int orders = 1;
        int number = 0;
        for (int n = 0; n <= 7; n++) {
            orders *= Math.max(1, n);
            number = n == 0 ? 0 : number * 8 + n - 1;
            CaseBefore x = Due.told(alike(n, 0));
            Due.row(n + " alike", Due.of(x.best(0, -2), x.best(1, -2), x.best(2, -2), x.best(3, -2), x.rests(), x.fits(0, 0), x.fits(0, 1)),
                orders, orders, orders, orders, orders, orders, number);
        }
        CaseBefore x = Due.told(alike(7, 0));
        for (int n = 7; n > 0; n--) {
            Due.row(n + " on the LIST", Due.of(x.fits(0, 0), x.best(2, -2), x.rests()), orders, orders, orders);
            orders /= n;
            x.off(7 - n);
        }
    }

    // "of alike ones the lowest at place 0, then at the next"
    private static void bestOfAlikeOnes() {
        for (int goal = 0; goal <= 3; goal++) {
            CaseBefore x = Due.told(alike(5, 0));
            x.go(4, 0);
            x.go(0, 4);
            for (int place = 0; place < 5; place++) {
                Due.is("goal " + goal + ", place " + place, x.best(goal, place), place);
            }
            x.off(1);
            Due.row("without b", Due.of(x.best(goal, 0), x.best(goal, 1), x.best(goal, 2), x.best(goal, 3), x.best(goal, 4)), 0, 2, 3, 4, -1);
        }
        // c ahead is best, whoever comes then: 20 for c as FIRST, 21 for others, the rest for nothing behind a DEED of 0.
        CaseBefore x = Due.told(alike(4, 0) + "doom=if which<2 then 21 else if which<3 then 20 else 21;");
        Due.row("c ahead", Due.of(x.best(0, -1), x.best(0, -2), x.best(0, 0), x.best(0, 1), x.best(0, 2), x.best(0, 3)), 20, 6, 2, 0, 1, 3);
        Due.row("any but c ahead", Due.of(x.best(1, -1), x.best(1, -2), x.best(1, 0), x.best(1, 1), x.best(1, 2), x.best(1, 3)), 21, 18, 0, 1, 2, 3);
        Due.row("c ahead, by the most", Due.of(x.best(3, -1), x.best(3, -2), x.best(3, 0), x.best(3, 1)), 20, 6, 2, 0);
    }

    // "each would SUFFER less": by one is less, as much is not; one of the two alone is not enough.
    private static void eachWouldSufferLess() {
        // a FIRST suffers 50, behind b what is told; b suffers 50 behind a, FIRST what is told.
        int[][] rows = {{49, 49, 1}, {50, 49, 0}, {49, 50, 0}, {50, 50, 0}, {51, 10, 0}, {10, 51, 0}, {0, 0, 1}, {51, 51, 0}};
        for (int[] row : rows) {
            String ofB = "which*(place*50+(1-place)*" + row[1] + ")";
            String ofA = "(1-which)*((1-place)*50+place*" + row[0] + ")";
            CaseBefore x = Due.told("case a 3 0;case b 3 0;doom=" + ofB + "+" + ofA + ";");
            Due.row("by " + row[0] + " and " + row[1], Due.of(x.traders(0), x.traders(1), x.count(13), x.settles()), row[2] * 2, row[2], 1 - row[2], row[2]);
            x.change(0, 1);
            boolean back = row[0] > 50 && row[1] > 50;
            Due.row("changed, by " + row[0] + " and " + row[1], Due.of(x.traders(0), x.traders(1), x.count(13)), back ? 2 : 0, back ? 1 : 0, back ? 0 : 1);
        }
    }

    // "How much less all on the LIST would SUFFER, added (may be below 0)"
    private static void gainMayBeBelowNought() {
        CaseBefore x = Due.told("case a 5 0;case b 5 0;case c 5 0;doom=if which<1 then place*10 else if which<2 then (2-place)*7 else 9;");
        int[][] list = {{0, 1, 2}, {0, 2, 1}, {1, 0, 2}, {1, 2, 0}, {2, 0, 1}, {2, 1, 0}};
        // a at 0, 1, 2: 0, 10, 20; b: 14, 7, 0; c: 9 each; the last one 1 more.
        int[] all = {0 + 7 + 9 + 1, 0 + 9 + 0 + 1, 14 + 10 + 9 + 1, 14 + 9 + 20 + 1, 9 + 10 + 0 + 1, 9 + 7 + 20 + 1};
        for (int i = 0; i < 6; i++) {
            for (int place = 0; place < 3; place++) {
                x.go(list[i][place], place);
            }
            Due.is("all", x.count(4), all[i]);
            for (int j = 0; j < 6; j++) {
                int differs = 0;
                int a = -1;
                int b = -1;
                for (int place = 0; place < 3; place++) {
                    if (list[i][place] != list[j][place]) {
                        differs++;
                        b = a;
                        a = list[i][place];
                    }
                }
                if (differs == 2) {
                    Due.row("gain of " + a + " and " + b, Due.of(x.gain(a, b), x.gain(b, a)), all[i] - all[j], all[i] - all[j]);
                }
            }
        }
    }

    // "none on the LIST": in a new object, by a text without CASES, all put off, all judged.
    private static void noneOnTheList() {
        Twin.Calls[] pasts = {x -> 0, x -> {
            Due.feed(x, "before 9;doom=50;");
            return x.read();
        }, x -> {
            Due.feed(x, "case a 5 5;case b 6 6;");
            x.read();
            x.off(0);
            return Twin.bit(x.off(1));
        }, x -> {
            Due.feed(x, "case a 5 5;case b 6 6;");
            x.read();
            return x.sessions(1);
        }};
        for (Twin.Calls past : pasts) {
            CaseBefore x = of(past);
            for (int goal = 0; goal <= 3; goal++) {
                Due.row("best of " + goal, Due.of(x.best(goal, -1), x.best(goal, -2), x.best(goal, 0), x.best(goal, 6), x.best(goal, -3)), 0, 1, -1, -1, -1);
            }
            Due.row("traders, gain, behind", Due.of(x.traders(0), x.traders(1), x.gain(0, 1), x.gain(0, 0), x.behind(0)), -1, -1, -100000, -100000, -1);
            Due.row("rests, settles, buyers", Due.of(x.rests(), x.settles(), x.buyers()), 1, 0, 0);
            Due.row("shunned, lighter", Due.of(x.shunned(0), x.shunned(1), x.lighter(0), x.lighter(1)), -2, -2, -2, -2);
            Due.row("furthest", Due.of(x.furthest(0, 0), x.furthest(0, 1), x.furthest(1, 0)), -1, -1, -1);
            Due.row("fits, ask", Due.of(x.fits(0, 0), x.fits(0, 1), x.ask(0, 0), x.ask(0, 999)), 1, 0, -2, -2);
            Due.row("tell", Due.of(x.tell(0, 0, true), x.tell(6, 999, false)), 0, 1);
            Due.row("of a place that is not there", Due.of(x.fits(1, 0), x.fits(1, 1), x.fits(2, 0), x.fits(2, 1), x.ask(1, 5), x.ask(2, 5)), 0, -2, 0, -2, -2, -2);
            Due.row("listIn", Due.of(x.listIn(0, 0), x.listIn(40, 0), x.listIn(0, 1) - x.count(3), x.listIn(40, 1) - x.count(3)), 0, 0, 0, 0);
            Due.row("counts", Due.of(x.count(1), x.count(4), x.count(6), x.count(13), x.count(14), x.count(16), x.count(17), x.count(18)), 0, 0, 0, 1, 0, 0, 0, 0);
            Due.row("at", Due.of(x.at(0), x.at(6)), -1, -1);
        }
    }

    private static void oneOnTheList() {
        CaseBefore x = Due.told("case a 5 5;case b 30 30;before 12;");
        x.off(0);
        for (int goal = 0; goal <= 3; goal++) {
            Due.row("best of " + goal, Due.of(x.best(goal, -1), x.best(goal, -2), x.best(goal, 0), x.best(goal, 1)), goal == 2 ? 18 : 12, 1, 1, -1);
        }
        Due.row("traders, behind", Due.of(x.traders(1), x.behind(1), x.rests(), x.settles(), x.buyers()), 0, -2, 1, 0, 0);
        Due.row("shunned by nobody, lighter for nobody", Due.of(x.shunned(0), x.shunned(1), x.lighter(0), x.lighter(1)), 1, 0, 1, 0);
        Due.row("furthest stays", Due.of(x.furthest(1, 0), x.furthest(1, 1)), 0, 12);
        Due.row("fits, ask", Due.of(x.fits(0, 0), x.fits(0, 1), x.ask(0, 12), x.ask(0, 13)), 1, 1, 0, 0);
        Due.is("plead", x.plead(1), -1);
    }

    // "behind how many (0 .. 50)": 0, 1, 50, and what comes to 51.
    private static void settlesBehindHowMany() {
        String cross = "case a 5 0;case b 5 0;doom=if which<1 then (1-place)*50 else place*50;";
        CaseBefore x = Due.told(cross);
        Due.is("behind 1", x.settles(), 1);
        x.change(0, 1);
        Due.is("behind 0", x.settles(), 0);
        String q = "(which*57+place*338+deed*29+70)";
        String text = "case a 93 0;case b 64 0;case c 78 0;case d 89 0;case e 50 0;case f 15 0;case g 47 0;doom=" + q + "*" + q + "*14-" + q + "*" + q + "*14/79*79;";
        int[][] orders = {{0, 2, 4, 3, 5, 6, 1}, {1, 4, 5, 2, 0, 6, 3}};
        for (int i = 0; i < 2; i++) {
            x = Due.told(text);
            for (int place = 0; place < 7; place++) {
                x.go(orders[i][place], place);
            }
            Due.is("settles of order " + i, x.settles(), i == 0 ? 50 : -2);
            int changed = 0;
            while (changed < 60 && x.count(13) == 0) {
                int a = 0;
                while (x.traders(a) <= 0) {
                    a++;
                }
                x.change(a, Integer.numberOfTrailingZeros(x.traders(a)));
                changed++;
                if (i == 0 && changed % 10 == 0 || changed >= 49 || changed == 1) {
                    int left = (i == 0 ? 50 : 51) - changed;
                    Due.is("settles behind " + changed + " of order " + i, x.settles(), left);
                }
            }
            Due.is("by hand, of order " + i, changed, 50 + i);
        }
    }

    // "SHUNNED .. of alike ones the lowest"
    private static void shunnedOfAlikeOnes() {
        CaseBefore x = Due.told(alike(5, 7));
        Due.row("all alike", Due.of(x.shunned(0), x.shunned(1)), 0, 28);
        x.go(0, 4);
        x.go(3, 0);
        Due.row("by their numbers, not places", Due.of(x.shunned(0), x.shunned(1)), 0, 28);
        x.off(0);
        Due.row("b now", Due.of(x.shunned(0), x.shunned(1)), 1, 21);
        x = Due.told(alike(4, 7) + "doom=0;");
        x.go(3, 0);
        Due.row("by nothing", Due.of(x.shunned(0), x.shunned(1)), 0, 0);
        x = Due.told("case a 7 0;case b 8 0;case c 8 0;case d 7 0;");
        x.go(2, 0);
        Due.row("the lower of two", Due.of(x.shunned(0), x.shunned(1)), 1, 24);
        x = Due.told("case a 7 0;case b 7 0;case c 8 0;");
        Due.row("one more is more", Due.of(x.shunned(0), x.shunned(1)), 2, 16);
        x = Due.told("case a 9 0;case b 7 0;doom=1/0;");
        Due.row("divided by 0", Due.of(x.shunned(0), x.shunned(1)), 0, 0);
        x = Due.told(alike(7, 99) + "doom=999;");
        Due.row("the most that can be", Due.of(x.shunned(0), x.shunned(1)), 0, 594);
    }

    // "who would SUFFER less by more than FEE, if it did, and have it in their PURSE"
    private static void buyersAtTheEdges() {
        // b behind a DEED of 40, MIDST: less by PLEA.
        int[][] rows = {{0, 0, 9, 0}, {1, 0, 0, 1}, {10, 10, 99, 0}, {11, 10, 99, 1}, {9, 10, 99, 0}, {11, 10, 10, 1}, {11, 10, 9, 0}, {11, 10, 11, 1}, {40, 39, 39, 1},
            {40, 40, 99, 0}, {60, 39, 39, 1}, {60, 40, 99, 0}, {99, 45, 99, 0}};
        for (int[] row : rows) {
            CaseBefore x = Due.told("case a 40 99;case b 10 " + row[2] + ";case c 0 0;plea=" + row[0] + ";fee=" + row[1] + ";");
            Due.row("PLEA " + row[0] + ", FEE " + row[1] + ", PURSE " + row[2], Due.of(x.buyers() & 2, x.count(17) - Integer.bitCount(x.buyers())), 2 * row[3], 0);
        }
        // WEDGED: by half, rounded: 40 and 40 - 21 = 19: 20 and 9, less by 11.
        for (int fee = 9; fee <= 12; fee++) {
            CaseBefore x = Due.told("case a 40 99;case b 50 99;plea=21;fee=" + fee + ";");
            Due.is("WEDGED, FEE " + fee, x.buyers(), fee < 11 ? 2 : 0);
        }
        CaseBefore x = Due.told("case a 40 99;case b 20 99;case c 20 99;fee=0;");
        Due.is("FIRST does not buy", x.buyers(), 6);
        x.plead(0);
        Due.is("it pleads already", x.buyers(), 4);
        x.plead(1);
        Due.row("nobody", Due.of(x.buyers(), x.count(17)), 0, 0);
        x.change(0, 2);
        Due.row("behind c, which does not plead", Due.of(x.buyers(), x.count(17)), 2, 1);
        // FEE is as it is now, nobody ahead pleading, and nothing of it is paid yet in what b would SUFFER then.
        for (int fee = 9; fee <= 11; fee++) {
            x = Due.told("case a 40 99;case b 10 99;case c 0 0;plea=10;fee=" + fee + "+pled*9;");
            Due.is("FEE " + fee + ", and 9 more once a pleads", x.buyers(), fee < 10 ? 2 : 0);
            x = Due.told("case a 40 99;case b 10 99;case c 0 0;plea=10;doom=purse/3;fee=" + fee + ";");
            Due.is("DOOM by the PURSE, FEE " + fee, x.buyers(), fee < 10 ? 2 : 0);
        }
        Due.is("INNOCENT does not buy", Due.told("case a 0 9;case b 9 9;fee=0;plea=9;doom=9;").buyers(), 0);
        x = Due.told(alike(7, 8) + "fee=0;");
        Due.row("six", Due.of(x.buyers(), x.count(17)), 126, 6);
    }

    // "LIGHTER .. of alike ones the lowest"
    private static void lighterOfAlikeOnes() {
        CaseBefore x = Due.told(alike(4, 8) + "before 8;");
        // Three are left: 8, 8, 8 and a quarter of 8.
        Due.row("all alike", Due.of(x.lighter(0), x.lighter(1)), 0, 26);
        x.go(0, 3);
        Due.row("by their numbers, not places", Due.of(x.lighter(0), x.lighter(1)), 0, 26);
        x.off(0);
        Due.row("b now", Due.of(x.lighter(0), x.lighter(1)), 1, 18);
        x = Due.told(alike(3, 0));
        x.go(2, 0);
        Due.row("for nothing", Due.of(x.lighter(0), x.lighter(1)), 0, 0);
        // Put off, it pleads no more, and the one behind it is behind another one.
        x = Due.told("case a 40 9;case b 40 9;case c 40 9;fee=0;plea=30;");
        x.plead(0);
        x.plead(1);
        // a b c, b pleads: without a: 0, 10+10; without b: 0, 10+10; without c: 0, 10+10.
        Due.row("pleas", Due.of(x.lighter(0), x.lighter(1), x.count(6)), 0, 20, 3);
        x.undo();
        // a alone pleads: without a: 0, 50; without b: 0, 20; without c: 0, 20.
        Due.row("a plea that would be missed", Due.of(x.lighter(0), x.lighter(1)), 1, 20);
    }

    // "FURTHEST .. the place to which, going there, it SUFFERS least (staying, too), of alike ones the first"
    private static void furthestOfAlikeOnes() {
        CaseBefore x = Due.told(alike(5, 3) + "before 3;doom=deed;");
        for (int d = 0; d < 5; d++) {
            Due.row("all alike, " + d, Due.of(x.furthest(d, 0), x.furthest(d, 1)), 0, 3);
        }
        x = Due.told(alike(5, 3) + "doom=if place<3 then 50-place*10 else 30;before 1;");
        for (int d = 0; d < 5; d++) {
            Due.row("the first of 2 and 3, " + d, Due.of(x.furthest(d, 0), x.furthest(d, 1)), 2, 30);
        }
        x = Due.told(alike(5, 3) + "doom=50-place*10;before 1;");
        Due.row("the last place", Due.of(x.furthest(0, 0), x.furthest(0, 1), x.furthest(4, 0), x.furthest(4, 1)), 4, 10, 4, 10);
        x = Due.told(alike(5, 3) + "doom=place*10;before 1;");
        Due.row("the first place", Due.of(x.furthest(0, 0), x.furthest(0, 1), x.furthest(4, 0), x.furthest(4, 1)), 0, 0, 0, 0);
    }

    // "IN n SESSIONS (0 .. 40)"
    private static void inSessions() {
        CaseBefore x = Due.told("case a 10 9;case b 20 9;before 33;adjourns=if session<39 then 100 else if session<40 then which*100 else 0;");
        Due.row("on the LIST in 38 .. 40", Due.of(x.listIn(0, 0), x.listIn(1, 0), x.listIn(38, 0), x.listIn(39, 0), x.listIn(40, 0), x.listIn(41, 0), x.listIn(-1, 0)),
            2, 2, 2, 2, 1, -1, -1);
        Due.row("left in 38 .. 40", Due.of(x.listIn(0, 1), x.listIn(39, 1), x.listIn(40, 1), x.listIn(41, 1), x.listIn(-1, 1)), 33, 33, 10, -1, -1);
        Due.row("suffered", Due.of(x.then(0, 0), x.then(0, 39), x.then(0, 40), x.then(0, 41), x.then(0, -1), x.then(1, 40)), 0, 0, 33, -1, -1, 0);
        Due.row("year", Due.of(x.year(0, 0, 20), x.year(0, 39, 20), x.year(0, 40, 20), x.year(1, 40, 20), x.year(0, 41, 1), x.year(0, -1, 1)), 20, 20, 0, 20, -1, -1);
        x.sessions(40);
        Due.row("from there on", Due.of(x.count(2), x.listIn(0, 0), x.listIn(1, 0), x.listIn(1, 1), x.then(0, 0), x.then(1, 0), x.then(1, 1), x.year(1, 1, 20)),
            40, 1, 0, 20, 33, 0, 10, 0);
    }

    // "YEAR by s SEEDS (1 .. 20) from the text's SEED on", the highest SEED, too.
    private static void yearBySeeds() {
        for (int seed : new int[] {0, 1, 9980, 9990, 9999}) {
            CaseBefore x = Due.told(alike(3, 5) + "seed " + seed + ";adjourns=55;");
            for (int s : new int[] {1, 2, 19, 20}) {
                for (int n = 0; n <= 2; n++) {
                    for (int d = 0; d < 3; d++) {
                        int kept = 0;
                        for (int i = 0; i < s; i++) {
                            boolean stays = true;
                            for (int session = 0; session < n; session++) {
                                stays &= Due.lot(seed + i, 8 * session + d) < 55;
                            }
                            kept += stays ? 1 : 0;
                        }
                        Due.is("year(" + d + ", " + n + ", " + s + ") from " + seed, x.year(d, n, s), kept);
                    }
                }
            }
            Due.row("no such s", Due.of(x.year(0, 1, 0), x.year(0, 1, -1), x.year(0, 1, 21), x.year(0, 0, 0), x.year(0, 0, 21)), -1, -1, -1, -1, -1);
        }
    }

    // "the one at a place (0 .. 6) SUFFERS v (0 .. 999) or more, or not"
    private static void toldAtTheEdges() {
        CaseBefore x = Due.told("case a 5 0;case b 5 0;before 42;");
        // Place 0 suffers 42, place 1 suffers 5 + 1, in both orders.
        int[][] rows = {{0, 41, 2}, {0, 42, 2}, {0, 43, 0}, {1, 5, 2}, {1, 6, 2}, {1, 7, 0}, {0, 0, 2}, {1, 0, 2}, {0, 999, 0}, {1, 999, 0}};
        for (int[] row : rows) {
            Due.is("tell", x.tell(row[0], row[1], true), 0);
            Due.is("place " + row[0] + ", " + row[1] + " or more", x.fits(1, 0), row[2]);
            x.forget();
            Due.is("tell", x.tell(row[0], row[1], false), 0);
            Due.is("place " + row[0] + ", less than " + row[1], x.fits(1, 0), 2 - row[2]);
            x.forget();
        }
        Due.row("no such places and values", Due.of(x.tell(-1, 0, true), x.tell(7, 0, true), x.tell(0, -1, true), x.tell(0, 1000, true), x.tell(7, 1000, false), x.count(10)),
            -1, -1, -1, -1, -1, 0);
        Due.row("the ends", Due.of(x.tell(0, 0, true), x.tell(6, 999, true), x.tell(6, 0, false), x.tell(0, 999, false), x.count(10)), 0, 1, 2, 3, 4);
    }

    // "20 at most, numbered from 0 on"
    private static void twentyAtMost() {
        CaseBefore x = Due.told("case a 5 0;case b 5 0;before 42;");
        for (int i = 0; i < 20; i++) {
            Due.is("tell " + i, x.tell(0, 42 - i, true), i);
            Due.is("told", x.count(10), i + 1);
        }
        Due.row("a 21st", Due.of(x.tell(0, 999, true), x.tell(6, 0, false), x.count(10), x.fits(20, 0), x.fits(21, 0), x.ask(20, 5), x.ask(21, 5)), -1, -1, 20, 2, -1, 0, -1);
        Due.row("forget", Due.of(x.forget(), x.count(10), x.forget(), x.fits(0, 0), x.fits(1, 0)), 20, 0, 0, 2, -1);
        for (int i = 0; i < 20; i++) {
            Due.is("tell anew " + i, x.tell(1, i < 19 ? 6 : 7, true), i);
        }
        Due.row("the 20th counts", Due.of(x.fits(19, 0), x.fits(20, 0)), 2, 0);
    }

    // "KNOWN by k: the first k"
    private static void knownByTheFirst() {
        CaseBefore x = Due.told(alike(4, 0) + "doom=10+which*10;");
        // Place 0 suffers 10, 20, 30 or 40, all else 0.
        x.tell(0, 20, true);
        x.tell(0, 40, false);
        x.tell(0, 30, true);
        x.tell(0, 30, false);
        x.tell(0, 10, true);
        long[] want = {24, 18, 12, 6, 0, 0};
        long[] first = {0 * 512 + 64 + 16 + 3, 512 + 0 + 16 + 3, 512 + 0 + 16 + 3, 2 * 512 + 0 + 8 + 3, -2, -2};
        for (int k = 0; k <= 5; k++) {
            Due.row("known by " + k, Due.of(x.fits(k, 0), x.fits(k, 1)), want[k], first[k]);
        }
        Due.row("no such k", Due.of(x.fits(-1, 0), x.fits(6, 0), x.fits(6, 1), x.ask(-1, 5), x.ask(6, 5)), -1, -1, -1, -1, -1);
    }

    // "of a place that is not there nothing is so, nor not so: then none FITS"
    private static void placeThatIsNotThere() {
        for (int n = 0; n <= 7; n++) {
            for (int place = 0; place <= 6; place++) {
                CaseBefore x = Due.told(alike(n, 0));
                int orders = x.fits(0, 0);
                x.tell(place, 0, true);
                x.tell(place, 1, false);
                boolean there = place < n;
                Due.row(n + " on the LIST, so and not so of " + place, Due.of(x.fits(1, 0), x.fits(2, 0), x.fits(0, 0)), there ? orders : 0, there ? orders : 0, orders);
                x.forget();
                x.tell(place, 1, false);
                Due.row(n + " on the LIST, not so of " + place, Due.of(x.fits(1, 0), x.fits(1, 1) == -2 ? 1 : 0, x.ask(1, 5)), there ? orders : 0, there ? 0 : 1, there ? 0 : -2);
            }
        }
        CaseBefore x = Due.told(alike(3, 0));
        x.tell(2, 0, true);
        Due.is("three are there", x.fits(1, 0), 6);
        x.off(1);
        Due.row("two are there", Due.of(x.fits(1, 0), x.fits(1, 1), x.ask(1, 0), x.fits(0, 0), x.ask(0, 0)), 0, -2, -2, 2, 0);
        x.on(1);
        Due.row("three again", Due.of(x.fits(1, 0), x.fits(1, 1)), 6, 1 * 8 + 2);
    }

    // "8 times what those so far come to and the CASE, to the last one"
    private static void theFirstThatFits() {
        CaseBefore x = Due.told(alike(7, 0) + "doom=10+which*10;");
        x.go(0, 6);
        // The number of an order, written with the base 8, is its dockets one behind the other.
        Due.is("the first of all", x.fits(0, 1), 0123456);
        x.tell(0, 70, true);
        Due.row("g ahead", Due.of(x.fits(1, 0), x.fits(1, 1)), 720, 06012345);
        x.off(6);
        Due.row("no g", Due.of(x.fits(1, 0), x.fits(1, 1), x.fits(0, 1)), 0, -2, 0012345);
        x.off(0);
        Due.row("no a", Due.of(x.fits(0, 0), x.fits(0, 1)), 120, 012345);
        x.off(1);
        x.off(2);
        x.off(3);
        x.off(4);
        Due.row("f alone", Due.of(x.fits(0, 0), x.fits(0, 1)), 1, 5);
        x.off(5);
        Due.row("nobody", Due.of(x.fits(0, 0), x.fits(0, 1)), 1, 0);
    }

    // "fewest are left, at worst; of alike ones the first"
    private static void askOfAlikeOnes() {
        CaseBefore x = Due.told(alike(4, 0) + "doom=10+which*10;");
        // Place 0 parts them by v, all others don't; where it does not either, it is the first.
        for (int v : new int[] {0, 10, 11, 20, 25, 30, 40, 41, 999}) {
            Due.is("ask(0, " + v + ")", x.ask(0, v), 0);
        }
        // At place 1 nobody suffers behind a; b suffers 20 there, c 21, d 22; place 0: 9 each.
        x = Due.told("case a 0 0;case b 9 0;case c 9 0;case d 9 0;doom=if place<1 then 9 else if place<2 then 19+which else 0;");
        Due.row("place 1 parts best", Due.of(x.ask(0, 1), x.ask(0, 20), x.ask(0, 21), x.ask(0, 9), x.ask(0, 10), x.ask(0, 0)), 3, 1, 1, 1, 1, 0);
        x = Due.told("case a 9 0;case b 9 0;case c 9 0;doom=if place<2 then which*10 else 0;");
        // Places 0 and 1 alike: 0, 10 or 20 (two orders each); place 2: 2.
        Due.row("the first of 0 and 1", Due.of(x.ask(0, 10), x.ask(0, 20), x.ask(0, 2), x.ask(0, 3), x.ask(0, 1)), 0, 0, 0, 0, 0);
        Due.row("v", Due.of(x.ask(0, -1), x.ask(0, 0), x.ask(0, 999), x.ask(0, 1000)), -1, 0, 0, -1);
        // By place 0 three sorts of four, by place 1 two and two: place 0 is worse, though ahead.
        x = Due.told("case a 9 0;case b 9 0;case c 9 0;case d 9 0;doom=if place<1 then which*10 else if place<2 then which/2*30 else 50;");
        Due.row("two and two", Due.of(x.ask(0, 30), x.ask(0, 20), x.ask(0, 10), x.ask(0, 21)), 1, 0, 1, 1);
        // One left: each place leaves one at worst.
        x.tell(0, 30, true);
        x.tell(1, 30, true);
        x.tell(1, 31, false);
        Due.row("d ahead, c behind it", Due.of(x.fits(3, 0), x.fits(3, 1), x.ask(3, 30)), 2, 3 * 512 + 2 * 64 + 0 + 1, 0);
    }

    // "What would be (nothing happens; nobody is ADJOURNED but in IN n SESSIONS and YEAR)"
    private static void nothingIsAdjournedNorHappens() {
        String text = TEXTS[5].replace("adjourns=80-which*20;", "");
        for (int d = 0; d < 5; d++) {
            int who = d;
            for (Twin.Calls would : new Twin.Calls[] {x -> x.best(0, 0), x -> x.best(1, 0), x -> x.best(2, -2), x -> x.best(3, 4), x -> x.traders(who), x -> x.gain(who, 0),
                x -> x.behind(who), x -> x.rests(), x -> x.settles(), x -> x.shunned(0), x -> x.shunned(1), x -> x.buyers(), x -> x.lighter(0), x -> x.lighter(1),
                x -> x.furthest(who, 0), x -> x.furthest(who, 1), x -> x.fits(0, 0), x -> x.fits(2, 1), x -> x.ask(1, 40), x -> x.count(4), x -> x.count(18)}) {
                CaseBefore x = of(past(text, 1));
                CaseBefore y = of(past(text + "adjourns=100;", 1));
                CaseBefore z = of(past(text + "adjourns=which*33;seed 5;", 1));
                x.tell(1, 20, true);
                y.tell(1, 20, true);
                z.tell(1, 20, true);
                Due.is("by ADJOURNS 100", would.on(y), would.on(x));
                Due.is("by ADJOURNS of some", would.on(z), would.on(x));
            }
        }
        for (String each : TEXTS) {
            for (int sort = 0; sort <= 2; sort++) {
                Twin.nothingHappens("all that would be, of " + each, past(each, sort), x -> {
                    for (int d = 0; d < 2; d++) {
                        x.traders(d);
                        x.gain(0, d);
                        x.behind(d);
                        x.furthest(d, 0);
                        x.then(d, 40);
                        x.year(d, 40, 20);
                    }
                    for (int goal = 0; goal <= 3; goal++) {
                        x.best(goal, -1);
                    }
                    x.rests();
                    x.settles();
                    x.shunned(0);
                    x.buyers();
                    x.lighter(0);
                    x.listIn(40, 0);
                    x.fits(0, 0);
                    x.ask(0, 30);
                    return 0;
                }, 0);
            }
        }
    }

    // "Where NONE and -2 could both be told, it is NONE, if it is not told otherwise."
    private static void noneRatherThanMinusTwo() {
        CaseBefore x = Due.told("case a 5 5;case b 6 6;");
        x.off(1);
        Due.row("docket, no such CASE", Due.of(x.docket(1, 2), x.docket(2, 2), x.docket(-1, 2), x.docket(1, 7)), -2, -1, -1, -1);
        Due.row("behind", Due.of(x.behind(0), x.behind(1), x.behind(2), x.behind(-1)), -2, -1, -1, -1);
        x.off(0);
        Due.row("shunned", Due.of(x.shunned(0), x.shunned(1), x.shunned(2), x.shunned(-1)), -2, -2, -1, -1);
        Due.row("lighter", Due.of(x.lighter(0), x.lighter(1), x.lighter(2), x.lighter(-1)), -2, -2, -1, -1);
        Due.row("ask", Due.of(x.ask(0, 0), x.ask(1, 0), x.ask(-1, 0), x.ask(0, -1), x.ask(0, 1000)), -2, -1, -1, -1, -1);
        x.tell(0, 5, true);
        Due.row("fits", Due.of(x.fits(1, 1), x.fits(2, 1), x.fits(-1, 1), x.fits(1, 2), x.fits(1, -1)), -2, -1, -1, -1, -1);
        Due.row("ask of what does not fit", Due.of(x.ask(1, 0), x.ask(2, 0), x.ask(1, 1000)), -2, -1, -1);
        Due.row("best", Due.of(x.best(0, -2), x.best(0, 0), x.best(4, -2), x.best(0, -3)), 1, -1, -1, -1);
        Due.row("furthest", Due.of(x.furthest(0, 0), x.furthest(0, 2)), -1, -1);
    }
}
