import java.util.Random;

/** Any arguments in any state: no call throws, and each object answers its last calls as its twin does. */
public final class WildTest {
    private static final int[] ODD = {Integer.MIN_VALUE, Integer.MIN_VALUE + 1, -1000, -3, -2, -1, 0, 1, 2, 3, 4, 5, 6, 7, 8, 19, 20, 21, 31, 32, 33, 40, 41, 63,
        64, 98, 99, 100, 101, 998, 999, 1000, 1999, 2000, 2001, 9999, Integer.MAX_VALUE - 1, Integer.MAX_VALUE};
    private static final String[] TEXTS = {
        "case a 2 9;case b 5 8;case c 4 7;case d 3 6;case e 9 5;case f 0 4;case g 1 90;doom=deed*which*99/7+place*session;adjourns=50;seed 12;",
        "case a 99 99;case b 0 99;case c 99 0;doom=8192*8192*32/(0-1)/(pled-1);plea=own/(place-1);fee=gone/purse;adjourns=session*cases;",
        "case a 20 20;case b 20 20;doom=if 1/place<2 then 50 else if which<2 then 60 else deed-own;before 99;",
        "case a 20 20;", ""};

    private final Random random;

    private WildTest(int run) {
        random = new Random(run);
    }

    private int any() {
        int sort = random.nextInt(10);
        return sort < 6 ? random.nextInt(8) - 1 : sort < 9 ? ODD[random.nextInt(ODD.length)] : random.nextInt();
    }

    private int call(CaseBefore x, int which, int a, int b, int c) {
        switch (which) {
            case 0: return x.back(a);
            case 1: return x.feed(a * 7919, b * 104729, c, a, b);
            case 2: return x.read();
            case 3: return x.place();
            case 4: return x.docket(a, b);
            case 5: return x.suffers(a, b);
            case 6: return x.tells(a, b, c);
            case 7: return x.at(a);
            case 8: return x.change(a, b) ? 1 : 0;
            case 9: return x.go(a, b) ? 1 : 0;
            case 10: return x.off(a) ? 1 : 0;
            case 11: return x.on(a) ? 1 : 0;
            case 12: return x.plead(a);
            case 13: return x.sessions(a);
            case 14: return x.undo() ? 1 : 0;
            case 15: return x.best(a, b);
            case 16: return x.traders(a);
            case 17: return x.gain(a, b);
            case 18: return x.behind(a);
            case 19: return x.rests();
            case 20: return x.settles();
            case 21: return x.shunned(a);
            case 22: return x.buyers();
            case 23: return x.lighter(a);
            case 24: return x.furthest(a, b);
            case 25: return x.then(a, b);
            case 26: return x.listIn(a, b);
            case 27: return x.year(a, b, c);
            case 28: return x.tell(a, b, (c & 1) == 0);
            case 29: return x.forget();
            case 30: return x.fits(a, b);
            case 31: return x.ask(a, b);
            case 32: return x.hold(a) ? 1 : 0;
            case 33: return x.restore(a) ? 1 : 0;
            default: return x.count(a);
        }
    }

    private void run(int run) {
        CaseBefore x = new CaseBefore();
        CaseBefore twin = new CaseBefore();
        for (int i = 0; i < 512; i++) {
            if (random.nextInt(100) == 0) {
                x = new CaseBefore();
                twin = new CaseBefore();
                String text = TEXTS[random.nextInt(TEXTS.length)];
                Due.feed(x, text);
                Due.feed(twin, text);
                Due.is("read of " + text, x.read(), twin.read());
            }
            int which = random.nextInt(35);
            if (which <= 2 && random.nextInt(4) > 0) {
                which += 4;
            }
            int a = any();
            int b = any();
            int c = any();
            String call = "run " + run + ", call " + i + ": " + which + " of " + a + ", " + b + ", " + c;
            try {
                Due.is(call, call(x, which, a, b, c), call(twin, which, a, b, c));
            } catch (RuntimeException e) {
                Due.is(call + " threw " + e, 1, 0);
            }
        }
    }

    public static void main(String[] args) {
        for (int run = 0; run < 100; run++) {
            new WildTest(run).run(run);
        }
        noise();
        Due.end();
    }

    // Bytes of any sort, signs and words in any row.
    private static void noise() {
        Random random = new Random(4);
        String[] bits = "case;before;doom;plea;fee;adjourns;seed;if;then;else;deed;own;1;99;100;a;b;(;);<;=;+;-;*;/".split(";");
        for (int run = 0; run < 3000; run++) {
            StringBuilder text = new StringBuilder();
            int length = random.nextInt(run % 3 == 0 ? 2000 : 60);
            while (text.length() < length) {
                if (run % 2 == 0) {
                    text.append((char) random.nextInt(256));
                } else {
                    text.append(bits[random.nextInt(bits.length)]).append(random.nextInt(4) == 0 ? ";" : " ");
                }
            }
            text.setLength(length);
            try {
                CaseBefore x = new CaseBefore();
                Due.feed(x, text.toString());
                int fault = x.read();
                Due.is("a fault has its place", fault == 0 ? x.place() == -1 : x.place() >= 0 && x.place() <= length, true);
                x.tells(0, 5, 0);
            } catch (RuntimeException e) {
                Due.is("noise " + run + " threw " + e, 1, 0);
            }
        }
    }
}
