/** Compares answers with what is due, and feeds texts. */
final class Due {
    private static int wrong = 0;
    private static int told = 0;

    private Due() {
    }

    static void is(String call, long got, long want) {
        if (got != want) {
            wrong++;
            if (told++ < 60) {
                System.out.println(call + " answered " + got + ", due is " + want);
            }
        }
    }

    static void is(String call, boolean got, boolean want) {
        is(call, got ? 1 : 0, want ? 1 : 0);
    }

    static void end() {
        System.out.println(wrong == 0 ? "all answers are as due" : wrong + " answers are not as due");
        if (wrong != 0) {
            System.exit(1);
        }
    }

    /** Feeds a text of chars 0 to 255, byte for byte. */
    static void feed(CaseBefore x, String text) {
        int[] words = words(text);
        for (int i = 0; i < words.length; i += 5) {
            x.feed(words[i], words[i + 1], words[i + 2], words[i + 3], words[i + 4]);
        }
        x.back(words.length * 4 - text.length());
    }

    static int[] words(String text) {
        int[] words = new int[(text.length() + 19) / 20 * 5];
        for (int i = 0; i < words.length * 4; i++) {
            int sign = i < text.length() ? text.charAt(i) & 255 : ' ';
            words[i / 4] = words[i / 4] << 8 | sign;
        }
        return words;
    }

    static CaseBefore told(String text) {
        CaseBefore x = new CaseBefore();
        feed(x, text);
        is("read of " + text, x.read(), 0);
        return x;
    }

    static void fault(String text, int fault, int place) {
        CaseBefore x = new CaseBefore();
        feed(x, text);
        is("fault of " + text, x.read(), fault);
        is("place of the fault of " + text, x.place(), place);
    }
}
