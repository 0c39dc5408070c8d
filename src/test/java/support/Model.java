import java.util.ArrayDeque;
import java.util.ArrayList;
import java.util.Arrays;
import java.util.Collections;
import java.util.Deque;
import java.util.HashMap;
import java.util.HashSet;
import java.util.LinkedHashMap;
import java.util.List;
import java.util.Map;
import java.util.Set;
import java.util.TreeSet;

/** The document once more, in the plainest form: slow, with exceptions, maps and lists, and sharing nothing with the class. */
final class Model {
    @SuppressWarnings("serial")
    static final class Fault extends RuntimeException {
        final int number;
        final int place;

        Fault(int number, int place) {
            super(null, null, false, false);
            this.number = number;
            this.place = place;
        }
    }

    @SuppressWarnings("serial")
    static final class DividedByZero extends RuntimeException {
        DividedByZero() {
            super(null, null, false, false);
        }
    }

    record Token(String text, int place, char sort) {
    }

    interface Expression {
        int of(Map<String, Integer> vars);
    }

    static final class Case {
        String name;
        int deed;
        int purse;
    }

    static final class Told {
        List<Case> cases = new ArrayList<>();
        Map<String, Expression> laws = new HashMap<>();
        int before = 0;
        int seed = 0;
    }

    static final class Now {
        List<Integer> list = new ArrayList<>();
        Set<Integer> pleading = new TreeSet<>();
        int[] purses = new int[7];
        int[] suffered = new int[7];
        int before;
        int session;
        int judged;

        Now copy() {
            Now c = new Now();
            c.list = new ArrayList<>(list);
            c.pleading = new TreeSet<>(pleading);
            c.purses = purses.clone();
            c.suffered = suffered.clone();
            c.before = before;
            c.session = session;
            c.judged = judged;
            return c;
        }

        Now with(List<Integer> other) {
            Now c = copy();
            c.list = new ArrayList<>(other);
            return c;
        }
    }

    static final Set<String> WORDS = new HashSet<>(Arrays.asList("case", "before", "doom", "plea", "fee", "adjourns", "seed", "if", "then", "else",
            "deed", "own", "purse", "place", "session", "which", "cases", "pled", "gone"));
    static final Set<String> VARS = new HashSet<>(Arrays.asList("deed", "own", "purse", "place", "session", "which", "cases", "pled", "gone"));

    StringBuilder tape = new StringBuilder();
    Told told = new Told();
    Now now = new Now();
    Deque<Now> done = new ArrayDeque<>();
    Map<Integer, Now> slots = new HashMap<>();
    List<int[]> known = new ArrayList<>();
    int faultPlace = -1;

    // ---- the text

    static List<Token> tokens(String s) {
        List<Token> tokens = new ArrayList<>();
        int i = 0;
        while (i < s.length()) {
            char c = s.charAt(i);
            if (c == 9 || c == 10 || c == 13 || c == 32) {
                i++;
                continue;
            }
            int j = i + 1;
            char sort = 'x';
            if (c >= 'a' && c <= 'z') {
                while (j < s.length() && s.charAt(j) >= 'a' && s.charAt(j) <= 'z') {
                    j++;
                }
                sort = j - i > 8 ? 'x' : WORDS.contains(s.substring(i, j)) ? 'w' : 'n';
            } else if (c >= '0' && c <= '9') {
                while (j < s.length() && s.charAt(j) >= '0' && s.charAt(j) <= '9') {
                    j++;
                }
                sort = j - i > 4 ? 'x' : 'i';
            } else if (";=+-*/<()".indexOf(c) >= 0) {
                sort = 's';
            }
            tokens.add(new Token(s.substring(i, j), i, sort));
            i = j;
        }
        tokens.add(new Token("", s.length(), 'e'));
        return tokens;
    }

    static final class Parse {
        final List<Token> tokens;
        final Told told = new Told();
        final List<Fault> later = new ArrayList<>();
        int i = 0;
        int ifs = 0;

        Parse(String text) {
            tokens = tokens(text);
        }

        Token peek() {
            return tokens.get(i);
        }

        boolean is(String text) {
            return (peek().sort == 's' || peek().sort == 'w') && peek().text.equals(text);
        }

        Token take() {
            if (i >= 400) {
                throw new Fault(2, peek().place);
            }
            return tokens.get(i++);
        }

        void expect(String text) {
            if (!is(text)) {
                throw new Fault(1, peek().place);
            }
            take();
        }

        int number(int most) {
            if (peek().sort != 'i') {
                throw new Fault(1, peek().place);
            }
            int n = Integer.parseInt(peek().text);
            if (n > most) {
                later.add(new Fault(5, peek().place));
            }
            take();
            return n;
        }

        void text() {
            while (peek().sort != 'e') {
                tell();
                expect(";");
            }
            if (!later.isEmpty()) {
                throw later.get(0);
            }
        }

        void tell() {
            if (is("case")) {
                if (told.cases.size() == 7) {
                    throw new Fault(2, peek().place);
                }
                take();
                if (peek().sort != 'n') {
                    throw new Fault(1, peek().place);
                }
                Case one = new Case();
                one.name = peek().text;
                for (Case other : told.cases) {
                    if (other.name.equals(one.name)) {
                        later.add(new Fault(3, peek().place));
                        break;
                    }
                }
                take();
                one.deed = number(99);
                one.purse = number(99);
                told.cases.add(one);
            } else if (is("before")) {
                take();
                told.before = number(99);
            } else if (is("seed")) {
                take();
                told.seed = number(9999);
            } else if (is("doom") || is("plea") || is("fee") || is("adjourns")) {
                String which = take().text;
                expect("=");
                ifs = 0;
                told.laws.put(which, law());
            } else {
                throw new Fault(1, peek().place);
            }
        }

        Expression law() {
            if (!is("if")) {
                return sum(0);
            }
            if (++ifs > 4) {
                throw new Fault(2, peek().place);
            }
            take();
            Expression low = sum(0);
            expect("<");
            Expression high = sum(0);
            expect("then");
            Expression yes = sum(0);
            expect("else");
            Expression no = law();
            return v -> low.of(v) < high.of(v) ? yes.of(v) : no.of(v);
        }

        Expression sum(int depth) {
            Expression so = product(depth);
            while (is("+") || is("-")) {
                boolean plus = take().text.equals("+");
                Expression left = so;
                Expression right = product(depth);
                so = plus ? v -> left.of(v) + right.of(v) : v -> left.of(v) - right.of(v);
            }
            return so;
        }

        Expression product(int depth) {
            Expression so = unit(depth);
            while (is("*") || is("/")) {
                boolean times = take().text.equals("*");
                Expression left = so;
                Expression right = unit(depth);
                so = times ? v -> left.of(v) * right.of(v) : v -> {
                    int a = left.of(v);
                    int b = right.of(v);
                    if (b == 0) {
                        throw new DividedByZero();
                    }
                    return (int) ((long) a / b);
                };
            }
            return so;
        }

        Expression unit(int depth) {
            Token t = peek();
            if (t.sort == 'i') {
                int n = Integer.parseInt(take().text);
                return v -> n;
            }
            if (t.sort == 'w' && VARS.contains(t.text)) {
                take();
                return v -> v.get(t.text);
            }
            if (!is("(")) {
                throw new Fault(1, t.place);
            }
            if (depth == 6) {
                throw new Fault(2, t.place);
            }
            take();
            Expression inner = sum(depth + 1);
            expect(")");
            return inner;
        }
    }

    // ---- sentence

    int deed(int docket) {
        return told.cases.get(docket).deed;
    }

    boolean isCase(int docket) {
        return docket >= 0 && docket < told.cases.size();
    }

    int law(Now s, String which, int docket, int deed) {
        Expression law = told.laws.get(which);
        int at = s.list.indexOf(docket);
        Map<String, Integer> v = new LinkedHashMap<>();
        v.put("deed", deed);
        v.put("own", deed(docket));
        v.put("purse", s.purses[docket]);
        v.put("place", at < 0 ? s.list.size() : at);
        v.put("session", s.session);
        v.put("which", docket);
        v.put("cases", s.list.size());
        v.put("pled", at > 0 && s.pleading.contains(s.list.get(at - 1)) ? 1 : 0);
        v.put("gone", s.judged);
        int so;
        if (law == null) {
            so = which.equals("doom") ? deed : which.equals("plea") ? deed / 2 : which.equals("fee") ? deed / 4 : 0;
        } else {
            try {
                so = law.of(v);
            } catch (DividedByZero e) {
                so = 0;
            }
        }
        int most = which.equals("adjourns") ? 100 : 99;
        return so < 0 ? 0 : so > most ? most : so;
    }

    int kind(Now s, int at) {
        if (at == 0) {
            return 0;
        }
        int ahead = deed(s.list.get(at - 1));
        if (ahead == 0) {
            return 1;
        }
        if (ahead < deed(s.list.get(at))) {
            return 2;
        }
        return at == s.list.size() - 1 ? 3 : 4;
    }

    int suffering(Now s, int at) {
        int docket = s.list.get(at);
        int kind = kind(s, at);
        if (kind == 0) {
            return law(s, "doom", docket, s.before);
        }
        if (kind == 1) {
            return 0;
        }
        int ahead = s.list.get(at - 1);
        int so = law(s, "doom", docket, deed(ahead));
        if (s.pleading.contains(ahead)) {
            so -= law(s, "plea", docket, deed(ahead));
        }
        so = Math.max(so, 0);
        return kind == 2 ? so / 2 : kind == 3 ? so + deed(docket) / 4 : so;
    }

    int due(Now s, int docket) {
        return law(s, "doom", docket, deed(docket));
    }

    int all(Now s) {
        int sum = 0;
        for (int at = 0; at < s.list.size(); at++) {
            sum += suffering(s, at);
        }
        return sum;
    }

    static int lot(int n, int seed, int which) {
        int h = seed;
        for (int it : new int[] {221, which}) {
            h = (h ^ it) * 1103515245 + 12345;
            h = h ^ (h >>> 15);
        }
        return (h >>> 1) % n;
    }

    Now after(Now s, int sessions, int seed) {
        Now was = s;
        for (int i = 0; i < sessions; i++) {
            Now next = was.copy();
            next.list.clear();
            for (int at = 0; at < was.list.size(); at++) {
                int docket = was.list.get(at);
                if (lot(100, seed, 8 * was.session + docket) < law(was, "adjourns", docket, deed(docket))) {
                    next.list.add(docket);
                } else {
                    next.suffered[docket] += suffering(was, at);
                    next.before = deed(docket);
                    next.judged++;
                }
            }
            next.pleading.clear();
            next.session++;
            was = next;
        }
        return was;
    }

    // ---- orders

    static void permute(List<Integer> sofar, List<Integer> rest, List<List<Integer>> all) {
        if (rest.isEmpty()) {
            all.add(new ArrayList<>(sofar));
            return;
        }
        for (int i = 0; i < rest.size(); i++) {
            List<Integer> left = new ArrayList<>(rest);
            sofar.add(left.remove(i));
            permute(sofar, left, all);
            sofar.remove(sofar.size() - 1);
        }
    }

    List<Now> orders() {
        List<Integer> sorted = new ArrayList<>(now.list);
        Collections.sort(sorted);
        List<List<Integer>> all = new ArrayList<>();
        permute(new ArrayList<>(), sorted, all);
        List<Now> orders = new ArrayList<>();
        for (List<Integer> each : all) {
            orders.add(now.with(each));
        }
        return orders;
    }

    int worth(Now s, int goal) {
        int so = 0;
        for (int at = 0; at < s.list.size(); at++) {
            int much = suffering(s, at);
            if (goal <= 1) {
                so += much;
            } else if (goal == 2) {
                so += Math.abs(much - due(s, s.list.get(at)));
            } else {
                so = Math.max(so, much);
            }
        }
        return so;
    }

    Now swapped(Now s, int a, int b) {
        List<Integer> list = new ArrayList<>(s.list);
        Collections.swap(list, list.indexOf(a), list.indexOf(b));
        return s.with(list);
    }

    int sufferingOf(Now s, int docket) {
        return suffering(s, s.list.indexOf(docket));
    }

    boolean trade(Now s, int a, int b) {
        Now t = swapped(s, a, b);
        return sufferingOf(t, a) < sufferingOf(s, a) && sufferingOf(t, b) < sufferingOf(s, b);
    }

    int[] firstTrade(Now s) {
        for (int a = 0; a < 7; a++) {
            for (int b = 0; b < 7; b++) {
                if (a != b && s.list.contains(a) && s.list.contains(b) && trade(s, a, b)) {
                    return new int[] {a, b};
                }
            }
        }
        return null;
    }

    boolean fitsKnown(Now s, int k) {
        for (int[] t : known.subList(0, k)) {
            if (t[0] >= s.list.size()) {
                return false;
            }
            if ((suffering(s, t[0]) >= t[1]) != (t[2] == 1)) {
                return false;
            }
        }
        return true;
    }

    List<Now> fitting(int k) {
        List<Now> fitting = new ArrayList<>();
        for (Now s : orders()) {
            if (fitsKnown(s, k)) {
                fitting.add(s);
            }
        }
        return fitting;
    }

    void did() {
        done.addLast(now.copy());
        if (done.size() > 40) {
            done.removeFirst();
        }
    }

    // ---- the face

    int feed(int... words) {
        if (tape.length() + 20 > 2000) {
            return -1;
        }
        for (int w : words) {
            for (int shift = 24; shift >= 0; shift -= 8) {
                tape.append((char) (w >>> shift & 255));
            }
        }
        return tape.length();
    }

    int back(int n) {
        if (n < 0 || n > tape.length()) {
            return -1;
        }
        tape.setLength(tape.length() - n);
        return tape.length();
    }

    int read() {
        Parse parse = new Parse(tape.toString());
        tape.setLength(0);
        try {
            parse.text();
        } catch (Fault f) {
            faultPlace = f.place;
            return f.number;
        }
        faultPlace = -1;
        told = parse.told;
        now = new Now();
        for (int i = 0; i < told.cases.size(); i++) {
            now.list.add(i);
            now.purses[i] = told.cases.get(i).purse;
        }
        now.before = told.before;
        done.clear();
        slots.clear();
        known.clear();
        return 0;
    }

    int docket(int d, int what) {
        if (!isCase(d) || what < 0 || what > 6) {
            return -1;
        }
        int at = now.list.indexOf(d);
        int[] answers = {deed(d), now.purses[d], at < 0 ? -2 : at, now.suffered[d], now.pleading.contains(d) ? 1 : 0, due(now, d),
            law(now, "adjourns", d, deed(d))};
        return answers[what];
    }

    int suffers(int d, int what) {
        int at = now.list.indexOf(d);
        if (at < 0 || what < 0 || what > 1) {
            return -1;
        }
        return what == 0 ? suffering(now, at) : kind(now, at);
    }

    int tells(int d, int deed, int what) {
        if (!isCase(d) || deed < 0 || deed > 99 || what < 0 || what > 2) {
            return -1;
        }
        return law(now, new String[] {"doom", "plea", "fee"}[what], d, deed);
    }

    int at(int place) {
        return place < 0 || place >= now.list.size() ? -1 : now.list.get(place);
    }

    int change(int a, int b) {
        if (a == b || !now.list.contains(a) || !now.list.contains(b)) {
            return 0;
        }
        did();
        now = swapped(now, a, b);
        return 1;
    }

    int go(int d, int place) {
        if (!now.list.contains(d) || place < 0 || place >= now.list.size() || now.list.get(place) == d) {
            return 0;
        }
        did();
        now.list.remove((Integer) d);
        now.list.add(place, d);
        return 1;
    }

    int off(int d) {
        if (!now.list.contains(d)) {
            return 0;
        }
        did();
        now.list.remove((Integer) d);
        now.pleading.remove(d);
        return 1;
    }

    int on(int d) {
        if (!isCase(d) || now.list.contains(d)) {
            return 0;
        }
        did();
        now.list.add(d);
        return 1;
    }

    int plead(int d) {
        int at = now.list.indexOf(d);
        if (at < 0 || now.pleading.contains(d) || at + 1 >= now.list.size()) {
            return -1;
        }
        int payer = now.list.get(at + 1);
        int fee = law(now, "fee", payer, deed(d));
        if (now.purses[payer] < fee) {
            return -1;
        }
        did();
        now.purses[payer] -= fee;
        now.pleading.add(d);
        return fee;
    }

    int sessions(int n) {
        if (n < 0 || n > 40) {
            return -1;
        }
        if (n > 0) {
            did();
            now = after(now, n, told.seed);
        }
        return now.session;
    }

    int undo() {
        if (done.isEmpty()) {
            return 0;
        }
        now = done.removeLast();
        return 1;
    }

    int best(int goal, int i) {
        if (goal < 0 || goal > 3 || i < -2 || i >= now.list.size()) {
            return -1;
        }
        Now best = null;
        int much = 0;
        int ways = 0;
        for (Now s : orders()) {
            int w = worth(s, goal) * (goal == 1 ? -1 : 1);
            if (best == null || w < much) {
                best = s;
                much = w;
                ways = 0;
            }
            ways += w == much ? 1 : 0;
        }
        return i == -1 ? Math.abs(much) : i == -2 ? ways : best.list.get(i);
    }

    int traders(int d) {
        if (!now.list.contains(d)) {
            return -1;
        }
        int bits = 0;
        for (int other : now.list) {
            if (other != d && trade(now, d, other)) {
                bits |= 1 << other;
            }
        }
        return bits;
    }

    int gain(int a, int b) {
        if (a == b || !now.list.contains(a) || !now.list.contains(b)) {
            return -100000;
        }
        return all(now) - all(swapped(now, a, b));
    }

    int behind(int d) {
        int at = now.list.indexOf(d);
        return at < 0 ? -1 : at + 1 >= now.list.size() ? -2 : now.list.get(at + 1);
    }

    int rests() {
        int n = 0;
        for (Now s : orders()) {
            n += firstTrade(s) == null ? 1 : 0;
        }
        return n;
    }

    int settles() {
        Now s = now;
        for (int n = 0; n <= 50; n++) {
            int[] pair = firstTrade(s);
            if (pair == null) {
                return n;
            }
            s = swapped(s, pair[0], pair[1]);
        }
        return -2;
    }

    int shunned(int what) {
        if (what < 0 || what > 1) {
            return -1;
        }
        int who = -2;
        int much = -2;
        for (int d = 0; d < 7; d++) {
            if (now.list.contains(d)) {
                int sum = 0;
                for (int other : now.list) {
                    sum += other == d ? 0 : law(now, "doom", other, deed(d));
                }
                if (sum > much) {
                    who = d;
                    much = sum;
                }
            }
        }
        return what == 0 ? who : much;
    }

    int buyers() {
        int bits = 0;
        for (int at = 1; at < now.list.size(); at++) {
            int d = now.list.get(at);
            int ahead = now.list.get(at - 1);
            if (!now.pleading.contains(ahead)) {
                Now if_ = now.copy();
                if_.pleading.add(ahead);
                int fee = law(now, "fee", d, deed(ahead));
                if (suffering(now, at) - suffering(if_, at) > fee && now.purses[d] >= fee) {
                    bits |= 1 << d;
                }
            }
        }
        return bits;
    }

    int lighter(int what) {
        if (what < 0 || what > 1) {
            return -1;
        }
        int who = -2;
        int much = Integer.MAX_VALUE;
        for (int d = 0; d < 7; d++) {
            if (now.list.contains(d)) {
                List<Integer> rest = new ArrayList<>(now.list);
                rest.remove((Integer) d);
                int sum = all(now.with(rest));
                if (sum < much) {
                    who = d;
                    much = sum;
                }
            }
        }
        return who == -2 ? -2 : what == 0 ? who : much;
    }

    int furthest(int d, int what) {
        if (!now.list.contains(d) || what < 0 || what > 1) {
            return -1;
        }
        int where = -1;
        int much = Integer.MAX_VALUE;
        for (int place = 0; place < now.list.size(); place++) {
            List<Integer> list = new ArrayList<>(now.list);
            list.remove((Integer) d);
            list.add(place, d);
            int so = suffering(now.with(list), place);
            if (so < much) {
                where = place;
                much = so;
            }
        }
        return what == 0 ? where : much;
    }

    int then(int d, int n) {
        return !isCase(d) || n < 0 || n > 40 ? -1 : after(now, n, told.seed).suffered[d];
    }

    int listIn(int n, int what) {
        if (n < 0 || n > 40 || what < 0 || what > 1) {
            return -1;
        }
        Now s = after(now, n, told.seed);
        return what == 0 ? s.list.size() : s.before;
    }

    int year(int d, int n, int s) {
        if (!isCase(d) || n < 0 || n > 40 || s < 1 || s > 20) {
            return -1;
        }
        int kept = 0;
        for (int i = 0; i < s; i++) {
            kept += after(now, n, told.seed + i).list.contains(d) ? 1 : 0;
        }
        return kept;
    }

    int tell(int place, int v, boolean so) {
        if (known.size() == 20 || place < 0 || place > 6 || v < 0 || v > 999) {
            return -1;
        }
        known.add(new int[] {place, v, so ? 1 : 0});
        return known.size() - 1;
    }

    int forget() {
        int n = known.size();
        known.clear();
        return n;
    }

    int fits(int k, int what) {
        if (k < 0 || k > known.size() || what < 0 || what > 1) {
            return -1;
        }
        List<Now> fitting = fitting(k);
        if (what == 0) {
            return fitting.size();
        }
        if (fitting.isEmpty()) {
            return -2;
        }
        int number = 0;
        for (int d : fitting.get(0).list) {
            number = number * 8 + d;
        }
        return number;
    }

    int ask(int k, int v) {
        if (k < 0 || k > known.size() || v < 0 || v > 999) {
            return -1;
        }
        List<Now> fitting = fitting(k);
        if (fitting.isEmpty() || now.list.isEmpty()) {
            return -2;
        }
        int where = -1;
        int fewest = Integer.MAX_VALUE;
        for (int place = 0; place < now.list.size(); place++) {
            int so = 0;
            for (Now s : fitting) {
                so += suffering(s, place) >= v ? 1 : 0;
            }
            int worst = Math.max(so, fitting.size() - so);
            if (worst < fewest) {
                where = place;
                fewest = worst;
            }
        }
        return where;
    }

    int hold(int slot) {
        if (slot < 0 || slot > 2) {
            return 0;
        }
        slots.put(slot, now.copy());
        return 1;
    }

    int restore(int slot) {
        if (!slots.containsKey(slot)) {
            return 0;
        }
        now = slots.get(slot).copy();
        done.clear();
        return 1;
    }

    int count(int what) {
        int bits = 0;
        int sum = 0;
        switch (what) {
            case 0: return told.cases.size();
            case 1: return now.list.size();
            case 2: return now.session;
            case 3: return now.before;
            case 4: return all(now);
            case 5: return Arrays.stream(now.suffered).sum();
            case 6:
                for (int d : now.pleading) {
                    bits |= 1 << d;
                }
                return bits;
            case 7: return Arrays.stream(now.purses).sum();
            case 8: return tape.length();
            case 9: return done.size();
            case 10: return known.size();
            case 11: return slots.size();
            case 12: return now.judged;
            case 13: return firstTrade(now) == null ? 1 : 0;
            case 14:
                for (int at = 0; at < now.list.size(); at++) {
                    sum = Math.max(sum, suffering(now, at));
                }
                return sum;
            case 15:
                for (int d = 0; d < told.cases.size(); d++) {
                    bits |= now.list.contains(d) ? 0 : 1 << d;
                }
                return bits;
            case 16:
                for (int d : now.list) {
                    sum += due(now, d);
                }
                return sum;
            case 17: return Integer.bitCount(buyers());
            case 18: return all(now) - best(0, -1);
            default: return -1;
        }
    }
}
