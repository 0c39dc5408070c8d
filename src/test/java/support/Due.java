/** Compares answers with what is due, and feeds texts. */
final class Due {
    private static int wrong = 0;
    private static int told = 0;

    private Due() {
    }

    static void is(String call, long got, long want) {
        if (got != want) {
            differs(call + " answered " + got + ", due is " + want);
        }
    }

    static void differs(String how) {
        wrong++;
        if (told++ < 60) {
            System.out.println(how);
        }
    }

    static void is(String call, boolean got, boolean want) {
        is(call, got ? 1 : 0, want ? 1 : 0);
    }

    static void end() {
        System.out.println(wrong == 0 ? "all answers are as due" : wrong + " answers are not as due");
        if (wrong != 0) {
            System.exit(1);
        }
    }

    /** Feeds a text of chars 0 to 255, byte for byte. */
    static void feed(CaseBefore x, String text) {
        int[] words = words(text);
        for (int i = 0; i < words.length; i += 5) {
            x.feed(words[i], words[i + 1], words[i + 2], words[i + 3], words[i + 4]);
        }
        x.back(words.length * 4 - text.length());
    }

    static int[] words(String text) {
        int[] words = new int[(text.length() + 19) / 20 * 5];
        for (int i = 0; i < words.length * 4; i++) {
            int sign = i < text.length() ? text.charAt(i) & 255 : ' ';
            words[i / 4] = words[i / 4] << 8 | sign;
        }
        return words;
    }

    /** The answers one behind the other, as one row. */
    static void row(String calls, long[] got, long... want) {
        is("answers of " + calls, got.length, want.length);
        for (int i = 0; i < got.length && i < want.length; i++) {
            is(calls + ", answer " + i, got[i], want[i]);
        }
    }

    static long[] of(long... answers) {
        return answers;
    }

    static long[] list(CaseBefore x) {
        long[] list = new long[x.count(1)];
        for (int i = 0; i < list.length; i++) {
            list[i] = x.at(i);
        }
        return list;
    }

    /** LOT 100 of a SEED and a which, as the document tells it, by longs. */
    static int lot(int seed, int which) {
        long h = seed;
        for (long it : new long[] {221, which}) {
            h = ((h ^ it) * 1103515245L + 12345L) & 0xffffffffL;
            h = h ^ (h >> 15);
        }
        return (int) ((h >> 1) % 100);
    }

    static CaseBefore told(String text) {
        CaseBefore x = new CaseBefore();
        feed(x, text);
        is("read of " + text, x.read(), 0);
        return x;
    }

    static void fault(String text, int fault, int place) {
        CaseBefore x = new CaseBefore();
        feed(x, text);
        is("fault of " + shortly(text), x.read(), fault);
        is("place of the fault of " + shortly(text), x.place(), place);
    }

    private static String shortly(String text) {
        return text.length() <= 200 ? text : text.substring(0, 60) + " .. " + text.substring(text.length() - 60);
    }
}
