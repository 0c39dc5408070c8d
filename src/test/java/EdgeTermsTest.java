/** Each sentence of the Terms that names an edge: at the edge, and one beyond it on each side. */
public final class EdgeTermsTest {
    private static final String[] LAWS = {"doom", "plea", "fee", "adjourns"};
    private static final String[] WORDS = {"case", "before", "doom", "plea", "fee", "adjourns", "seed", "if", "then", "else", "deed", "own", "purse",
        "place", "session", "which", "cases", "pled", "gone"};
    private static final String BRANCH = "if 1<2 then 3 else ";
    // a pleads, b is off the list, two sessions are by, much is held and told: what a fault must leave, and a text must not.
    private static final String PAST = "case a 40 20;case b 60 30;case c 10 30;before 50;seed 77;doom=deed+which;plea=deed/3;fee=deed/8;adjourns=if session<1 then 0 else 50;";

    public static void main(String[] args) {
        twoThousandBytes();
        longestTokens();
        blanks();
        signs();
        letters();
        digits();
        namesOfEightLetters();
        noneOfTheWords();
        intsOfFourDigits();
        theTextTells();
        sevenCases();
        deedPurseAndBefore();
        theSeed();
        numberedAsTheyStand();
        lawsThatAreNotTold();
        theLastOne();
        tokenFourHundredAndOne();
        fifthIf();
        seventhBracket();
        theTextsEnd();
        firstByItsPlace();
        leastOfOnePlace();
        twice();
        wrong();
        twiceAndWrongBehindTheOthers();
        aFaultChangesOnlyTheTape();
        aTextComesInPlace();
        textBehindText();
        fiveHundredAndTwelveCalls();
        Due.end();
    }

    private static void fine(String text) {
        Due.fault(text, 0, -1);
    }

    private static String cases(int n) {
        StringBuilder s = new StringBuilder();
        for (int i = 0; i < n; i++) {
            s.append("case ").append((char) ('a' + i)).append(" 1 1;");
        }
        return s.toString();
    }

    private static CaseBefore read(String text) {
        CaseBefore x = new CaseBefore();
        Due.feed(x, text);
        x.read();
        return x;
    }

    // "A TEXT has 2,000 bytes at most."
    private static void twoThousandBytes() {
        String full = "before 1;" + " ".repeat(1982) + "before 2;";
        Due.is("bytes of the longest text", full.length(), 2000);
        CaseBefore x = new CaseBefore();
        Due.feed(x, full);
        Due.is("count(8)", x.count(8), 2000);
        Due.is("one more", x.feed(0x62656f72, 0x65203320, 0x3b202020, 0, 0), -1);
        Due.is("count(8) behind it", x.count(8), 2000);
        Due.is("read of 2000 bytes", x.read(), 0);
        Due.is("their last tell", x.count(3), 2);
        Due.fault(" ".repeat(1999) + "?", 1, 1999);
        Due.fault(" ".repeat(1999) + ";", 1, 1999);
        Due.fault(" ".repeat(1994) + "before", 1, 2000);
        Due.fault(" ".repeat(1991) + "before 1 ", 1, 2000);
        fine(" ".repeat(2000));
        fine("before 1;" + " ".repeat(1991));
        fine("before " + " ".repeat(1991) + "1;");
    }

    // "TOKENS, the longest that can be, with blanks between or not"
    private static void longestTokens() {
        fine("case a 1 1;case aa 1 1;case aaa 1 1;");
        fine("case ifs 1 1;case elsea 1 1;case casea 1 1;");
        Due.fault("casea 1 1;", 1, 0);
        Due.fault("before1 2;", 1, 8);
        fine("before1;");
        fine("case a1 2;");
        fine("case a 1\t2\n;\r\ndoom=if 1<2then 3else 4;");
        Due.fault("case a 12;", 1, 9);
        Due.fault("doom=if1<2 then 3 else 4;", 0, -1);
        Due.fault("doom=ifdeed<2 then 3 else 4;", 1, 5);
        Due.fault("doom=1then;", 1, 6);
        fine("doom=((1))*(2)-(3);");
    }

    // "with blanks (9, 10, 13, 32)": of all bytes only these part two TOKENS.
    private static void blanks() {
        for (int sign = 0; sign < 256; sign++) {
            boolean blank = sign == 9 || sign == 10 || sign == 13 || sign == 32;
            boolean digit = sign >= '0' && sign <= '9';
            boolean letter = sign >= 'a' && sign <= 'z';
            String text = "before" + (char) sign + "1;";
            Due.fault(text, blank || digit ? 0 : 1, blank || digit ? -1 : letter ? 0 : 6);
            if (blank || digit) {
                Due.is("BEFORE of " + text, read(text).count(3), blank ? 1 : 10 * (sign - '0') + 1);
            }
            text = "before 1;" + (char) sign;
            Due.fault(text, blank ? 0 : 1, blank ? -1 : 9);
            text = (char) sign + "before 1;";
            Due.fault(text, blank ? 0 : 1, blank ? -1 : 0);
        }
    }

    // "SIGNS ; = + - * / < ( ) . All else is no TOKEN."
    private static void signs() {
        for (int sign = 0; sign < 256; sign++) {
            String text = "doom=9" + (char) sign + "2;";
            boolean between = sign == '+' || sign == '-' || sign == '*' || sign == '/' || sign >= '0' && sign <= '9';
            boolean behind = sign == ';' || sign == 9 || sign == 10 || sign == 13 || sign == 32;
            Due.fault(text, between ? 0 : 1, between ? -1 : behind ? 7 : 6);
        }
        int[] want = {11, 7, 18, 4};
        for (int i = 0; i < 4; i++) {
            Due.is("9 " + "+-*/".charAt(i) + " 2", read("case a 1 1;doom=9" + "+-*/".charAt(i) + "2;").tells(0, 0, 0), want[i]);
        }
        for (int sign = 0; sign < 256; sign++) {
            Due.fault("doom" + (char) sign + "1;", sign == '=' ? 0 : 1, sign == '=' ? -1 : isLetterOrDigit(sign) && sign >= 'a' ? 0 : isBlank(sign) ? 5 : 4);
            Due.fault("doom=1" + (char) sign, sign == ';' ? 0 : 1, sign == ';' ? -1 : isFollowing(sign) ? 7 : 6);
        }
    }

    private static boolean isBlank(int sign) {
        return sign == 9 || sign == 10 || sign == 13 || sign == 32;
    }

    private static boolean isLetterOrDigit(int sign) {
        return sign >= 'a' && sign <= 'z' || sign >= '0' && sign <= '9';
    }

    // What a text that ends so could go on with: its fault is its end.
    private static boolean isFollowing(int sign) {
        return isBlank(sign) || sign >= '0' && sign <= '9' || "+-*/".indexOf(sign) >= 0;
    }

    // "NAMES (letters a .. z)"
    private static void letters() {
        for (int sign = 0; sign < 256; sign++) {
            boolean letter = sign >= 'a' && sign <= 'z';
            Due.fault("case " + (char) sign + " 1 2;", letter ? 0 : 1, letter ? -1 : isBlank(sign) ? 7 : 5);
            Due.fault("case m" + (char) sign + "m 1 2;", letter ? 0 : 1, letter ? -1 : isBlank(sign) || sign >= '0' && sign <= '9' ? 7 : 6);
        }
    }

    // "INTS (1 to 4 digits)": which bytes are digits, and what each is worth.
    private static void digits() {
        for (int sign = 0; sign < 256; sign++) {
            boolean digit = sign >= '0' && sign <= '9';
            String text = "before " + (char) sign + ";";
            Due.fault(text, digit ? 0 : 1, digit ? -1 : isBlank(sign) ? 8 : 7);
            if (digit) {
                Due.is("BEFORE of " + text, read(text).count(3), sign - '0');
            }
        }
    }

    // "NAMES (letters a .. z, 8 at most)"
    private static void namesOfEightLetters() {
        for (int letters = 1; letters <= 20; letters++) {
            String name = "qzabmnya".repeat(3).substring(0, letters);
            Due.fault("case " + name + " 1 2;", letters <= 8 ? 0 : 1, letters <= 8 ? -1 : 5);
        }
        Due.fault("case zzzzzzzz 1 2;", 0, -1);
        Due.fault("case zzzzzzzzz 1 2;", 1, 5);
        Due.fault("zzzzzzzzz", 1, 0);
        Due.fault("case " + "z".repeat(1995), 1, 5);
    }

    // "none of the words in quotes"
    private static void noneOfTheWords() {
        for (String word : WORDS) {
            Due.fault("case " + word + " 1 2;", 1, 5);
            Due.fault("case " + word + ";", 1, 5);
            if (word.length() < 8) {
                fine("case " + word + "z 1 2;");
            }
            String less = word.substring(0, word.length() - 1);
            if (!less.equals("case")) {
                fine("case " + less + " 1 2;");
            }
        }
        Due.fault("case adjournsz 1 2;", 1, 5);
        fine("case adjourn 1 2;case adjournz 1 2;");
    }

    // "INTS (1 to 4 digits)"
    private static void intsOfFourDigits() {
        fine("seed 1;seed 12;seed 123;seed 1234;");
        fine("seed 0;seed 00;seed 000;seed 0000;");
        Due.fault("seed 12345;", 1, 5);
        Due.fault("seed 00000;", 1, 5);
        Due.fault("seed 00001;", 1, 5);
        Due.fault("seed 99999999999999999999;", 1, 5);
        Due.fault("seed ;", 1, 5);
        Due.fault("doom=12345;", 1, 5);
        Due.fault("doom=1+00000;", 1, 7);
        Due.is("0012", read("case a 1 1;doom=0012;").tells(0, 0, 0), 12);
        Due.is("9999", read("case a 1 1;doom=9999-9998;").tells(0, 0, 0), 1);
        Due.is("0009", read("before 0009;").count(3), 9);
    }

    // "text: {TELL}": none, one, many; every TELL by its own signs.
    private static void theTextTells() {
        fine("");
        fine("before 1;");
        fine("before 1;seed 2;case a 1 2;doom=1;plea=1;fee=1;adjourns=1;before 1;");
        Due.fault("before 1", 1, 8);
        Due.fault("before 1 before 1;", 1, 9);
        Due.fault("before 1;;", 1, 9);
        Due.fault("before 1;1", 1, 9);
        Due.fault("before 1;a", 1, 9);
        Due.fault("before = 1;", 1, 7);
        Due.fault("before 1 1;", 1, 9);
        Due.fault("before own;", 1, 7);
        Due.fault("case 1 1 1;", 1, 5);
        Due.fault("case a 1;", 1, 8);
        Due.fault("case a;", 1, 6);
        Due.fault("case a 1 1 1;", 1, 11);
        Due.fault("case a b 1 1;", 1, 7);
        for (String word : new String[] {"if", "then", "else", "deed", "own", "purse", "place", "session", "which", "cases", "pled", "gone"}) {
            Due.fault("before 1;" + word, 1, 9);
        }
        for (String law : LAWS) {
            int at = law.length() + 1;
            Due.fault(law + "=", 1, at);
            Due.fault(law + "=;", 1, at);
            Due.fault(law + "=if<1 then 2 else 3;", 1, at + 2);
            Due.fault(law + "=if 1<then 2 else 3;", 1, at + 5);
            Due.fault(law + "=if 1<2 else 2 then 3;", 1, at + 7);
            Due.fault(law + "=if 1<2 then else 3;", 1, at + 12);
            Due.fault(law + "=if 1<2 then 3;", 1, at + 13);
            Due.fault(law + "=if 1<2 then 3 else ;", 1, at + 19);
            Due.fault(law + "=1+;", 1, at + 2);
            Due.fault(law + "=1*;", 1, at + 2);
            Due.fault(law + "=+1;", 1, at);
            Due.fault(law + "=1 1;", 1, at + 2);
            Due.fault(law + "=();", 1, at + 1);
            Due.fault(law + "=(1;", 1, at + 2);
            Due.fault(law + "=1);", 1, at + 1);
            Due.fault(law + "=(if 1<2 then 3 else 4);", 1, at + 1);
        }
    }

    // "CASES, 7 at most": 0 .. 7, and an 8th, at its first TOKEN.
    private static void sevenCases() {
        for (int n = 0; n <= 7; n++) {
            fine(cases(n));
            Due.is("cases told", read(cases(n)).count(0), n);
            Due.is("cases on the list", read(cases(n)).count(1), n);
        }
        int end = cases(7).length();
        Due.fault(cases(8), 2, end);
        Due.fault(cases(7) + " \n case h 1 1;", 2, end + 3);
        Due.fault(cases(7) + "case", 2, end);
        Due.fault(cases(7) + "case case", 2, end);
        Due.fault(cases(7) + "before 1;case h 100 1;", 2, end + 9);
        fine(cases(7) + "before 1;doom=1;doom=2;doom=3;doom=4;doom=5;doom=6;doom=7;doom=8;doom=9;");
        fine(cases(7) + "before 1;".repeat(9) + "seed 1;".repeat(9));
    }

    // "the DEED 0 .. 99, the PURSE 0 .. 99"; "BEFORE: 0 .. 99"; "5 WRONG (at the INT)"
    private static void deedPurseAndBefore() {
        for (int n : new int[] {0, 1, 98, 99, 100, 101, 999, 1000, 9999}) {
            boolean so = n <= 99;
            Due.fault("case a " + n + " 5;", so ? 0 : 5, so ? -1 : 7);
            Due.fault("case a 5  " + n + ";", so ? 0 : 5, so ? -1 : 10);
            Due.fault(" before " + n + ";", so ? 0 : 5, so ? -1 : 8);
            if (so) {
                Due.is("DEED " + n, read("case a " + n + " 5;").docket(0, 0), n);
                Due.is("PURSE " + n, read("case a 5 " + n + ";").docket(0, 1), n);
                Due.is("BEFORE " + n, read("before " + n + ";").count(3), n);
            }
        }
        fine("case a 0099 0000;before 0099;");
        Due.fault("case a 0100 0;", 5, 7);
        Due.fault("case a 0 0100;", 5, 9);
        Due.fault("before 0100;", 5, 7);
        Due.fault("before 1;before 100;before 1;", 5, 16);
    }

    // "SEED 0 .. 9999 (0): the last one."
    private static void theSeed() {
        fine("seed 0;");
        fine("seed 9999;");
        Due.fault("seed 10000;", 1, 5);
        Due.fault("seed 0-1;", 1, 6);
        for (int seed : new int[] {0, 1, 9998, 9999}) {
            for (int more = 0; more <= 1; more++) {
                String text = "case a 1 1;adjourns=" + (Due.lot(seed, 0) + more) + ";";
                Due.is("adjourned by SEED " + seed + " and " + more, read(text + "seed " + seed + ";").listIn(1, 0), more);
                Due.is("by the last SEED", read("seed " + (9999 - seed) + ";" + text + "seed " + seed + ";").listIn(1, 0), more);
                if (seed == 0) {
                    Due.is("without a SEED", read(text).listIn(1, 0), more);
                    CaseBefore x = read("seed 4;");
                    Due.feed(x, text);
                    x.read();
                    Due.is("without a SEED, behind a text that had one", x.listIn(1, 0), more);
                }
            }
        }
    }

    // "numbered from 0 on as they stand; all are on the LIST, as they are told"
    private static void numberedAsTheyStand() {
        CaseBefore x = read("case z 7 70;before 1;case y 6 60;doom=1;case x 5 50;seed 1;case w 4 40;case v 3 30;case u 2 20;case t 1 10;");
        for (int d = 0; d < 7; d++) {
            Due.is("DEED of " + d, x.docket(d, 0), 7 - d);
            Due.is("PURSE of " + d, x.docket(d, 1), 70 - 10 * d);
            Due.is("place of " + d, x.docket(d, 2), d);
            Due.is("at(" + d + ")", x.at(d), d);
        }
        Due.is("docket(7, 0)", x.docket(7, 0), -1);
    }

    // "LAWS: DOOM (deed), PLEA (deed / 2), FEE (deed / 4), ADJOURNS (0), if not told": each, while all others are told.
    private static void lawsThatAreNotTold() {
        long[] told = {9, 19, 29, 39};
        long[] left = {97, 48, 24, 0};
        for (int missing = -1; missing < 4; missing++) {
            StringBuilder text = new StringBuilder("case a 97 5;case b 97 5;");
            for (int law = 0; law < 4; law++) {
                if (law != missing) {
                    text.append(LAWS[law]).append('=').append(told[law]).append("+own-own;");
                }
            }
            CaseBefore x = read(text.toString());
            long[] got = {x.tells(1, 97, 0), x.tells(1, 97, 1), x.tells(1, 97, 2), x.docket(1, 6)};
            for (int law = 0; law < 4; law++) {
                Due.is(LAWS[law] + " of " + text, got[law], law == missing ? left[law] : told[law]);
            }
        }
        for (int only = 0; only < 4; only++) {
            CaseBefore x = read("case a 97 5;" + LAWS[only] + "=5;");
            long[] got = {x.tells(0, 97, 0), x.tells(0, 97, 1), x.tells(0, 97, 2), x.docket(0, 6)};
            for (int law = 0; law < 4; law++) {
                Due.is(LAWS[law] + " by " + LAWS[only] + " alone", got[law], law == only ? 5 : left[law]);
            }
        }
        CaseBefore x = read("case a 1 1;");
        long[] deeds = {0, 1, 2, 3, 4, 7, 8, 99};
        for (long deed : deeds) {
            Due.row("laws for " + deed, Due.of(x.tells(0, (int) deed, 0), x.tells(0, (int) deed, 1), x.tells(0, (int) deed, 2)), deed, deed / 2, deed / 4);
        }
        Due.is("BEFORE not told", x.count(3), 0);
    }

    // "the last one": of LAWS, of BEFORE, of SEED (above).
    private static void theLastOne() {
        for (int law = 0; law < 4; law++) {
            String name = LAWS[law];
            CaseBefore x = read(name + "=11;" + name + "=22;case a 1 1;" + name + "=deed-deed+33;");
            Due.is("the last " + name, law < 3 ? x.tells(0, 1, law) : x.docket(0, 6), 33);
        }
        Due.is("the last BEFORE", read("before 1;before 99;before 0;before 3;").count(3), 3);
    }

    // "2 ROOM: a 401st TOKEN"
    private static void tokenFourHundredAndOne() {
        String many = "seed 1;".repeat(132);
        int end = many.length();
        fine(many + "fee=1;");
        fine(many + "fee=1;" + " ".repeat(50));
        fine(many + "fee=1 ; ");
        for (String more : new String[] {"before", "case", "doom", "plea", "fee", "adjourns", "seed", "seed 1;", "case ?", "seed ;;;"}) {
            Due.fault(many + "fee=1;" + more, 2, end + 6);
            Due.fault(many + "fee=1; \t " + more, 2, end + 9);
        }
        Due.fault(many + "fee=1+2;", 2, end + 6);
        Due.fault(many + "fee=(1);", 2, end + 6);
        Due.fault("fee=1" + "+1".repeat(199) + ";", 2, 402);
        Due.fault("fee=11" + "+1".repeat(198) + "+ 1;", 2, 404);
        fine("fee=1" + "+1".repeat(198) + ";");
        Due.fault("before 100;" + "case a 1 1;case a 1 1;" + many, 2, 11 + 22 + 7 * 129);
    }

    // "a 5th if of a LAW (at it)": each LAW by itself, told again it counts anew.
    private static void fifthIf() {
        for (String law : LAWS) {
            String head = "  " + law + "=";
            for (int ifs = 0; ifs <= 6; ifs++) {
                String text = head + BRANCH.repeat(ifs) + "9;";
                Due.fault(text, ifs <= 4 ? 0 : 2, ifs <= 4 ? -1 : head.length() + 4 * BRANCH.length());
            }
            Due.fault(head + BRANCH.repeat(4) + "if", 2, head.length() + 4 * BRANCH.length());
            Due.fault(head + BRANCH.repeat(4) + "if if", 2, head.length() + 4 * BRANCH.length());
            Due.fault(head + BRANCH.repeat(4) + " ifs", 1, head.length() + 4 * BRANCH.length() + 1);
        }
        fine("doom=" + BRANCH.repeat(4) + "9;doom=" + BRANCH.repeat(4) + "9;plea=" + BRANCH.repeat(4) + "9;fee=" + BRANCH.repeat(4) + "9;");
        CaseBefore x = read("case a 1 1;doom=if deed<1 then 10 else if deed<2 then 20 else if deed<3 then 30 else if deed<4 then 40 else 50;");
        for (int deed = 0; deed <= 5; deed++) {
            Due.is("the branch of deed " + deed, x.tells(0, deed, 0), Math.min(50, 10 + 10 * deed));
        }
    }

    // "a 7th ( within one another (at it)": those that are closed again don't count; each E of a LAW begins anew.
    private static void seventhBracket() {
        for (String law : LAWS) {
            for (int deep = 0; deep <= 9; deep++) {
                String text = law + "=" + "(".repeat(deep) + "1" + ")".repeat(deep) + ";";
                Due.fault(text, deep <= 6 ? 0 : 2, deep <= 6 ? -1 : law.length() + 7);
            }
        }
        String six = "((((((1))))))";
        String seven = "(((((((1)))))))";
        fine("doom=" + six + "+" + six + "*" + six + ";");
        Due.fault("doom=" + six + "+" + seven + ";", 2, 5 + six.length() + 1 + 6);
        fine("doom=if " + six + "<" + six + " then " + six + " else if " + six + "<1 then 1 else " + six + ";");
        String[] around = {"if #<1 then 1 else 1;", "if 1<# then 1 else 1;", "if 1<1 then # else 1;", "if 1<1 then 1 else #;"};
        for (String each : around) {
            fine("plea=" + each.replace("#", six));
            Due.fault("plea=" + each.replace("#", seven), 2, 5 + each.indexOf('#') + 6);
        }
        fine("doom=(1+(1-(1*(1/(1+(2)+(3))*(4)))));");
        Due.fault("doom=(1+(1-(1*(1/(1+(2)+(3+(4))*(4)))));", 2, 27);
        Due.fault("doom=(((((((", 2, 11);
        Due.fault("doom=((((((", 1, 11);
    }

    // "the text's end: its length"
    private static void theTextsEnd() {
        String text = "case a 12 34;";
        for (int length = 1; length < text.length(); length++) {
            // A part of the first word is a NAME, with which no text begins.
            String part = text.substring(0, length);
            Due.fault(part, 1, length < 4 ? 0 : length);
            Due.fault(part + "\n ", 1, length < 4 ? 0 : length + 2);
        }
        String law = "doom=if own<2 then (3) else 4;";
        for (int length : new int[] {4, 5, 7, 11, 12, 13, 18, 19, 20, 21, 22, 27, 28, 29}) {
            Due.fault(law.substring(0, length), 1, length);
        }
        Due.fault("b", 1, 0);
        Due.fault("before 100", 1, 10);
    }

    // "FAULTS of a text, the first by its place"
    private static void firstByItsPlace() {
        Due.fault("before;case", 1, 6);
        Due.fault("doom=(((((((1;", 2, 11);
        Due.fault("doom=1 1(((((((;", 1, 7);
        Due.fault(cases(7) + "doom=1 1;case h 1 1;", 1, cases(7).length() + 7);
        Due.fault(cases(8) + "doom=1 1;", 2, cases(7).length());
        Due.fault(cases(8) + "doom=(((((((1;", 2, cases(7).length());
        Due.fault("doom=(((((((1)))))));" + cases(8), 2, 11);
        Due.fault("doom=" + BRANCH.repeat(5) + "(((((((1", 2, 5 + 4 * BRANCH.length());
        Due.fault("doom=(((((((1" + BRANCH.repeat(5), 2, 11);
        Due.fault("doom=1;?" + "seed 1;".repeat(140), 1, 7);
    }

    // "of one place the least": 1 ahead of 2, where both stand at one TOKEN.
    private static void leastOfOnePlace() {
        String many = "seed 1;".repeat(132);
        int end = many.length();
        for (String more : new String[] {";", "1", "a", "if", "else", "deed", "=", "+", "(", ")", "<", "?", "12345", "abcdefghi", "BEFORE"}) {
            Due.fault(many + "fee=1;" + more, 1, end + 6);
        }
        Due.fault(many + "fee=1+)", 1, end + 6);
        Due.fault(many + "fee=1+?;", 1, end + 6);
        Due.fault(many + "fee=1 case", 1, end + 6);
        Due.fault("doom=((((((1(", 1, 12);
        Due.fault("doom=((((((1)))))) (", 1, 19);
        String four = "doom=" + BRANCH.repeat(4);
        Due.fault(four + "9 if", 1, four.length() + 2);
        Due.fault(four + "9+if", 1, four.length() + 2);
        Due.fault(four + "(if", 1, four.length() + 1);
        Due.fault(cases(7) + "before case h 1 1;", 1, cases(7).length() + 7);
        Due.fault(cases(7) + "doom=case h 1 1;", 1, cases(7).length() + 5);
        // Two of 2 at one TOKEN are one: the 401st is the 7th (, or a 5th if, or an 8th case.
        Due.fault(many + "fee=1+(", 2, end + 6);
        String deep = "seed 1;".repeat(130) + "fee=" + "((((((" + "1";
        Due.fault(deep + "+(", 2, deep.length() + 1);
        String seven = cases(7) + "seed 1;".repeat(119) + "fee=1;fee=1;";
        Due.fault(seven + "case", 2, seven.length());
        String ifs = "seed 1;".repeat(122) + "fee=1;" + "doom=" + BRANCH.repeat(4);
        Due.fault(ifs + "if", 2, ifs.length());
    }

    // "3 TWICE: a NAME told already" (at that NAME)
    private static void twice() {
        Due.fault("case a 1 1;case a 1 1;", 3, 16);
        Due.fault("case a 1 1;case  a 1 1;", 3, 17);
        Due.fault("case a 1 1;case b 1 1;case b 1 1;", 3, 27);
        Due.fault("case a 1 1;case b 1 1;case a 1 1;case b 1 1;", 3, 27);
        Due.fault("case a 1 1;" + "before 1;doom=deed;" + "case a 2 2;", 3, 35);
        Due.fault(cases(6) + "case a 1 1;", 3, cases(6).length() + 5);
        Due.fault(cases(6) + "case f 1 1;", 3, cases(6).length() + 5);
        fine(cases(6) + "case g 1 1;");
        // Names of eight letters that differ in one letter only, at each place, and names of which one begins the other.
        for (int at = 0; at < 8; at++) {
            StringBuilder other = new StringBuilder("mmmmmmmm");
            other.setCharAt(at, 'n');
            fine("case mmmmmmmm 1 1;case " + other + " 1 1;");
            Due.fault("case " + other + " 1 1;case " + other + " 1 1;", 3, 23);
            if (at > 0) {
                fine("case mmmmmmmm 1 1;case " + "mmmmmmmm".substring(0, at) + " 1 1;");
            }
        }
        fine("case ab 1 1;case ba 1 1;case a 1 1;case b 1 1;case az 1 1;case za 1 1;case zz 1 1;");
        // A NAME of a text ahead is not told already.
        CaseBefore x = read("case a 1 1;");
        Due.feed(x, "case a 2 2;");
        Due.is("the same NAME in another text", x.read(), 0);
        Due.feed(x, "case b 2 2;case b 2 2;");
        Due.is("a text with a fault", x.read(), 3);
        Due.feed(x, "case b 3 3;");
        Due.is("a NAME of a text with a fault", x.read(), 0);
    }

    // "5 WRONG (at the INT): a number not as told above"
    private static void wrong() {
        Due.fault("case a 100 1;", 5, 7);
        Due.fault("case a 1 100;", 5, 9);
        Due.fault("case a 100 100;", 5, 7);
        Due.fault("before 100;", 5, 7);
        Due.fault("case a 1 100;case b 100 1;before 100;", 5, 9);
        Due.fault("before 100;case a 1 100;", 5, 7);
        fine("doom=9999;plea=100;fee=0100;adjourns=if 1000<2000 then 3000 else 4000;seed 9999;");
    }

    // "If there is none, likewise": TWICE and WRONG only where there is neither SYNTAX nor ROOM; of these the first by its place.
    private static void twiceAndWrongBehindTheOthers() {
        Due.fault("case a 100 1;case a 1 1;", 5, 7);
        Due.fault("case a 1 1;case a 100 1;", 3, 16);
        Due.fault("case a 1 1;case a 1 100;", 3, 16);
        Due.fault("case a 1 1;before 100;case a 1 1;", 5, 18);
        Due.fault("case a 1 1;case a 1 1;before 100;", 3, 16);
        String both = "case a 1 100;case a 1 1;";
        Due.fault(both + "before", 1, both.length() + 6);
        Due.fault(both + ";", 1, both.length());
        Due.fault(both + "doom=(((((((1", 2, both.length() + 11);
        Due.fault(both + "doom=" + BRANCH.repeat(5), 2, both.length() + 5 + 4 * BRANCH.length());
        Due.fault(both + cases(5) + "case z 1 1;", 2, both.length() + cases(5).length());
        Due.fault(both + "seed 1;".repeat(140), 2, both.length() + 7 * 130);
        Due.fault("case a 100", 1, 10);
        Due.fault("case a 1 1;case a", 1, 17);
    }

    private static long past(CaseBefore x) {
        Due.feed(x, PAST);
        x.read();
        x.sessions(2);
        x.on(2);
        x.on(0);
        x.hold(2);
        x.on(1);
        x.plead(0);
        x.off(2);
        x.tell(0, 30, true);
        x.tell(1, 20, false);
        return x.count(9);
    }

    // "A text with a FAULT changes nothing but the tape" (which is empty then)
    private static void aFaultChangesOnlyTheTape() {
        String[] bad = {"?", "before 1;seed", "case a 1 1;doom=", "doom=1;plea=1;fee=1;adjourns=1;(", "doom=(((((((1)))))));", "doom=" + BRANCH.repeat(5) + "1;",
            cases(8), "seed 1;".repeat(134), "case a 1 1;case b 2 2;case a 3 3;", "before 5;seed 5;case z 100 1;", "case z 1 100;", "doom=7;before 100;", "before 100;doom=7;"};
        int[] faults = {1, 1, 1, 1, 2, 2, 2, 2, 3, 5, 5, 5, 5};
        for (int i = 0; i < bad.length; i++) {
            String text = bad[i];
            Twin.nothingHappens("a fault of " + text, EdgeTermsTest::past, x -> {
                Due.feed(x, text);
                return x.read();
            }, faults[i]);
        }
        CaseBefore x = read("before 7;");
        Due.feed(x, "case a 1 1;case a 1 1;");
        Due.row("TWICE", Due.of(x.count(8), x.read(), x.place(), x.count(8), x.count(3)), 22, 3, 16, 0, 7);
        Due.row("then nothing", Due.of(x.read(), x.place(), x.count(8), x.count(3)), 0, -1, 0, 0);
    }

    // "else it is in place of the one ahead: session 0, nobody pleads, nobody suffered; nothing can be undone, nothing is TOLD, SLOTS hold nothing"
    private static void aTextComesInPlace() {
        String[] texts = {"", "case z 9 9;", "case z 1 2;case y 3 4;seed 5;", "before 5;doom=1;case p 30 3;case q 20 9;case r 0 5;case s 9 9;plea=deed;",
            "case a 40 20;case b 60 30;case c 10 30;fee=0;adjourns=50;", PAST, cases(7) + "adjourns=70;"};
        for (String text : texts) {
            Twin.comeToTheSame("the text " + text, x -> {
                past(x);
                Due.feed(x, text);
                return x.read();
            }, x -> {
                Due.feed(x, text);
                return x.read();
            });
        }
        CaseBefore x = new CaseBefore();
        past(x);
        Due.row("ahead of the text", Due.of(x.count(2), x.count(6), x.count(9), x.count(10), x.count(11)), 2, 1, 6, 2, 1);
        Due.is("some suffered", x.count(5) > 0 && x.count(12) > 0, true);
        Due.feed(x, "case a 1 1;case b 1 1;");
        Due.is("read", x.read(), 0);
        Due.row("behind the text", Due.of(x.count(2), x.count(5), x.count(6), x.count(9), x.count(10), x.count(11), x.count(12)), 0, 0, 0, 0, 0, 0, 0);
        Due.row("nothing to be had back", Due.of(Twin.bit(x.undo()), Twin.bit(x.restore(0)), Twin.bit(x.restore(1)), Twin.bit(x.restore(2)), x.forget()), 0, 0, 0, 0, 0);
    }

    // One text behind the other, the longest that can be, with faults between: nothing of those ahead is left, nor lacks there room.
    private static void textBehindText() {
        CaseBefore x = new CaseBefore();
        String sum = "+deed".repeat(190);
        for (int i = 0; i < 8; i++) {
            Due.feed(x, "case a 1 1;doom=" + i + sum + ";");
            Due.row("text " + i, Due.of(x.read(), x.tells(0, 0, 0), x.tells(0, 0, 1), x.tells(0, 99, 2), x.docket(0, 6)), 0, i, 0, 24, 0);
            Due.feed(x, "case a 1 1;adjourns=" + i + sum + i % 2 + ";");
            Due.row("a fault behind it", Due.of(x.read(), x.tells(0, 0, 0)), 1, i);
        }
    }

    // "An object is used for at most 512 calls": the last ones are as right as the first ones.
    private static void fiveHundredAndTwelveCalls() {
        CaseBefore x = new CaseBefore();
        x.feed(0x63617365, 0x20612039, 0x39203939, 0x3b626566, 0x6f726520);
        x.feed(0x39393b20, 0x20202020, 0x20202020, 0x20202020, 0x20202020);
        Due.is("call 3", x.read(), 0);
        for (int i = 1; i <= 252; i++) {
            Due.is("sessions", x.sessions(i % 2 == 0 ? 1 : 40), i / 2 * 41 + i % 2 * 40);
            x.on(0);
        }
        // 3 and 504 calls so far.
        Due.row("the last ones", Due.of(x.count(2), x.docket(0, 3), x.count(12), x.count(9), x.then(0, 40)), 5166, 252 * 99, 252, 40, 253 * 99);
    }
}
