/** Promises 4 and 5 and what the Terms say of texts: tokens, grammar, faults by their places, laws. */
public final class TextTest {
    private static final String SIX = "case a 1 1;case b 1 1;case c 1 1;case d 1 1;case e 1 1;case f 1 1;";

    public static void main(String[] args) {
        tokens();
        grammar();
        room();
        laterFaults();
        whatAFaultChanges();
        whatATextChanges();
        lawsAsReckoned();
        variables();
        Due.end();
    }

    private static void fine(String text) {
        Due.fault(text, 0, -1);
    }

    private static void tokens() {
        fine("");
        fine(" \t\n\r ");
        fine("case\ta\n1\r2 ;");
        fine("case a1 2;");
        Due.fault("case a 12;", 1, 9);
        fine("case abcdefgh 1 2;");
        Due.fault("case abcdefghi 1 2;", 1, 5);
        Due.fault("casea 1 2;", 1, 0);
        Due.fault("Case a 1 2;", 1, 0);
        Due.fault("case A 1 2;", 1, 5);
        fine("case a 0001 0099;");
        Due.fault("case a 00001 1;", 1, 7);
        Due.fault("case a 1 12345;", 1, 9);
        Due.fault("before\u000b1;", 1, 6);
        Due.fault("before\f1;", 1, 6);
        Due.fault("before\u00001;", 1, 6);
        Due.fault("before \u00e9;", 1, 7);
        Due.fault("before 1.", 1, 8);
        Due.fault("before 1;.", 1, 9);
        Due.fault("before 1;_", 1, 9);
        for (String word : "case before doom plea fee adjourns seed if then else deed own purse place session which cases pled gone".split(" ")) {
            Due.fault("case " + word + " 1 2;", 1, 5);
        }
        for (String name : "cas casess bef dooms ple pleas feed adjourn see ifs the els deeds ow purs places gon a z".split(" ")) {
            fine("case " + name + " 1 2;");
        }
    }

    private static void grammar() {
        Due.fault("case", 1, 4);
        Due.fault("case  ", 1, 6);
        Due.fault("case a", 1, 6);
        Due.fault("case a 1 2", 1, 10);
        Due.fault("case a 1 2 3;", 1, 11);
        Due.fault("case 1 a 2;", 1, 5);
        Due.fault("case a b 2;", 1, 7);
        Due.fault(";", 1, 0);
        Due.fault("before 1;;", 1, 9);
        Due.fault("before;", 1, 6);
        Due.fault("before a;", 1, 7);
        Due.fault("before -1;", 1, 7);
        Due.fault("deed = 1;", 1, 0);
        Due.fault("seed", 1, 4);
        Due.fault("seed = 1;", 1, 5);
        Due.fault("seed 10000;", 1, 5);
        for (String law : new String[] {"doom", "plea", "fee", "adjourns"}) {
            fine(law + "=deed;");
            fine(law + "=own+purse-place*session/which+cases-pled*gone;");
            int from = law.length();
            Due.fault(law + "=;", 1, from + 1);
            Due.fault(law + " deed;", 1, from + 1);
            Due.fault(law + "=deed", 1, from + 5);
            Due.fault(law + "=if 1<2 then 3;", 1, from + 14);
        }
        Due.fault("doom=-1;", 1, 5);
        Due.fault("doom=1 2;", 1, 7);
        Due.fault("doom=1+;", 1, 7);
        Due.fault("doom=1*/2;", 1, 7);
        Due.fault("doom=(1;", 1, 7);
        Due.fault("doom=1);", 1, 6);
        Due.fault("doom=();", 1, 6);
        Due.fault("doom=(1<2);", 1, 7);
        Due.fault("doom=1<2;", 1, 6);
        Due.fault("doom=a;", 1, 5);
        Due.fault("doom=case;", 1, 5);
        Due.fault("doom=if 1 then 2 else 3;", 1, 10);
        Due.fault("doom=if 1<2 then if 1<2 then 1 else 2 else 3;", 1, 17);
        Due.fault("doom=(if 1<2 then 1 else 2);", 1, 6);
        Due.fault("doom=1+if 1<2 then 1 else 2;", 1, 7);
        fine("doom=if 1<2 then 1 else if 2<1 then 2 else 3;");
    }

    private static void room() {
        String branch = "if 1<2 then 3 else ";
        fine("doom=" + branch.repeat(4) + "5;");
        Due.fault("doom=" + branch.repeat(5) + "5;", 2, 5 + 4 * branch.length());
        Due.fault("doom=" + branch.repeat(4) + "if", 2, 5 + 4 * branch.length());
        fine("doom=" + branch.repeat(4) + "5;plea=" + branch.repeat(4) + "5;");
        fine("doom=((((((1))))));");
        Due.fault("doom=(((((((1)))))));", 2, 11);
        Due.fault("doom=1+((((((1*(", 2, 15);
        fine("doom=" + "(1)+".repeat(8) + "(((((1)+(1)+((1))))));");
        fine("doom=if ((((((1))))))<((((((1)))))) then ((((((1)))))) else ((((((1))))));");
        fine(SIX + "case g 1 1;");
        int end = SIX.length() + 11;
        Due.fault(SIX + "case g 1 1; case h 1 1;", 2, end + 1);
        Due.fault(SIX + "case g 1 1;case", 2, end);
        Due.fault(SIX + "case g 1 1;case ? 1", 2, end);
        Due.fault(SIX + "case g 1 1;case a 1 1;", 2, end);
        Due.fault(SIX + "case g 1;case h 1 1;", 1, SIX.length() + 8);
        manyTokens();
    }

    private static void manyTokens() {
        String many = "seed 1;".repeat(132); // 396 tokens
        int end = many.length() + 6;
        fine(many + "fee=1;");
        fine(many + "fee=1; \n");
        Due.fault(many + "fee=1;before 1;", 2, end);
        Due.fault(many + "fee=1; before", 2, end + 1);
        Due.fault(many + "fee=1;?", 1, end);
        Due.fault(many + "fee=1;;", 1, end);
        Due.fault(many + "fee=(1);", 2, end);
        Due.fault(many + "fee=(1", 1, end);
        Due.fault(many + "fee=1+1;", 2, end);
        Due.fault(many + "fee=1+", 1, end);
        Due.fault(many + "fee=1+;", 1, end);
        Due.fault(many + "fee=1+12345;", 1, end);
        Due.fault(many + "fee=1+(((((((", 2, end);
        Due.fault(many + "fee=1 1;", 1, end);
        Due.fault("before 100;" + many + "fee=1", 2, 11 + many.length() + 3);
        fine("doom=1" + "+1".repeat(198) + ";");
        Due.is("a law of nearly all tokens", Due.told("case a 1 1;doom=1" + "-1".repeat(193) + "+99+99;").tells(0, 0, 0), 6);
        Due.fault("doom=1" + "+1".repeat(199) + ";", 2, 403);
        fine(" ".repeat(1990) + "before 1; ");
        Due.fault(" ".repeat(1991) + "before 1 ", 1, 2000);
    }

    private static void laterFaults() {
        Due.fault("case a 1 1;case a 2 2;", 3, 16);
        Due.fault("case abcdefgh 1 1;case abcdefgh 2 2;", 3, 23);
        fine("case abcdefgh 1 1;case abcdefgi 2 2;case bbcdefgh 1 1;");
        fine("case a 1 1;case aa 2 2;case aaa 2 2;");
        Due.fault("case a 1 1;case b 1 1;case b 1 1;case a 2 2;", 3, 27);
        Due.fault("case a 100 1;", 5, 7);
        Due.fault("case a 1 100;", 5, 9);
        Due.fault("case a 100 100;", 5, 7);
        Due.fault("case a 9999 1;", 5, 7);
        Due.fault("case a 0100 1;", 5, 7);
        fine("case a 99 99;");
        fine("before 99;");
        Due.fault("before 100;", 5, 7);
        Due.fault("before 100;before 1;", 5, 7);
        fine("seed 9999;");
        fine("doom=9999;");
        Due.fault("case a 1 1;case a 100 2;", 3, 16);
        Due.fault("case a 1 100;case a 1 2;", 5, 9);
        Due.fault("before 100;case a 1 1;case a 1 1;", 5, 7);
        Due.fault("case a 1 1;case a 1 1;before 100;", 3, 16);
        Due.fault("case a 1 1;case a 1 1;?", 1, 22);
        Due.fault("before 100;before", 1, 17);
        Due.fault("before 100;doom=(((((((1)))))));", 2, 22);
        Due.fault("case a 100", 1, 10);
        Due.fault(SIX + "case a 1 1;case h 1 1;", 2, SIX.length() + 11);
        Due.fault(SIX + "case a 1 1;", 3, SIX.length() + 5);
    }

    private static void whatAFaultChanges() {
        CaseBefore x = Due.told("case a 30 19;case b 40 8;before 7;doom=deed+1;");
        x.change(0, 1);
        x.plead(1);
        x.hold(1);
        x.tell(0, 5, true);
        String[] bad = {"case c 1 1; ?", "case c 1 100;", "case c 1 1;case c 1 1;", SIX + SIX};
        int[] faults = {1, 5, 3, 2};
        int[] places = {12, 9, 16, SIX.length() + 11};
        for (int i = 0; i < bad.length; i++) {
            Due.feed(x, bad[i]);
            Due.is("count(8)", x.count(8), bad[i].length());
            Due.is("read of " + bad[i], x.read(), faults[i]);
            Due.is("place", x.place(), places[i]);
            Due.is("count(8) behind a fault", x.count(8), 0);
            Due.is("count(0) behind a fault", x.count(0), 2);
            Due.is("count(3) behind a fault", x.count(3), 7);
            Due.is("count(6) behind a fault", x.count(6), 2);
            Due.is("count(9) behind a fault", x.count(9), 2);
            Due.is("count(10) behind a fault", x.count(10), 1);
            Due.is("count(11) behind a fault", x.count(11), 1);
            Due.is("at(0) behind a fault", x.at(0), 1);
            Due.is("tells behind a fault", x.tells(0, 5, 0), 6);
        }
        Due.is("read of nothing", x.read(), 0);
        Due.is("place without a fault", x.place(), -1);
        Due.is("count(0) of nothing", x.count(0), 0);
        Due.is("count(3) of nothing", x.count(3), 0);
    }

    private static void whatATextChanges() {
        CaseBefore x = Due.told("case a 30 9;case b 40 8;before 7;seed 3;doom=deed+1;plea=1;fee=2;adjourns=3;");
        x.sessions(2);
        x.on(0);
        x.on(1);
        x.plead(0);
        x.hold(0);
        x.hold(2);
        x.tell(0, 5, true);
        Due.feed(x, "case c 50 6;case d 60 5;case e 70 4;");
        Due.is("read", x.read(), 0);
        int[] want = {3, 3, 0, 0, 0 + 25 + 30, 0, 0, 15, 0, 0, 0, 0, 0};
        for (int what = 0; what < want.length; what++) {
            Due.is("count(" + what + ") of a new text", x.count(what), want[what]);
        }
        Due.is("undo of what was ahead of the text", x.undo(), false);
        Due.is("restore of what was ahead of the text", x.restore(0), false);
        Due.is("DOOM of old", x.tells(0, 8, 0), 8);
        Due.is("PLEA of old", x.tells(0, 9, 1), 4);
        Due.is("FEE of old", x.tells(0, 11, 2), 2);
        Due.is("ADJOURNS of old", x.docket(0, 6), 0);
        Due.is("suffered of old", x.docket(0, 3), 0);
        // Of laws, BEFORE and SEED the last ones are so.
        x = Due.told("before 1;doom=1;seed 7;case a 5 5;before 2;doom=2;fee=3;fee=4;");
        Due.is("the last BEFORE", x.count(3), 2);
        Due.is("the last DOOM", x.tells(0, 50, 0), 2);
        Due.is("the last FEE", x.tells(0, 50, 2), 4);
        Due.is("PLEA not told", x.tells(0, 51, 1), 25);
    }

    private static int doom(String law, int deed) {
        return Due.told("case a 0 0;doom=" + law + ";").tells(0, deed, 0);
    }

    private static void law(String law, int want) {
        Due.is(law, doom(law, 10), want);
    }

    private static void lawsAsReckoned() {
        law("20-5-3", 12);
        law("20-(5-3)", 18);
        law("2+3*4", 14);
        law("(2+3)*4", 20);
        law("60/2/5", 6);
        law("60/(20/5)", 15);
        law("7/2*2", 6);
        law("2*7/2", 7);
        law("50+(0-7)/2", 47);
        law("50+7/(0-2)", 47);
        law("(0-7)/(0-2)", 3);
        law("deed*deed", 99);
        law("0-deed", 0);
        law("100", 99);
        law("99", 99);
        law("1/0", 0);
        law("50+1/(deed-10)", 0);
        law("50+0*(1/0)", 0);
        law("50+0/1", 50);
        law("if 1<2 then 3 else 1/0", 3);
        law("if 2<1 then 1/0 else 3", 3);
        law("if 1/0<2 then 3 else 4", 0);
        law("if 1<2/0 then 3 else 4", 0);
        law("if 1<2 then 1/0 else 4", 0);
        law("if 1<2 then 3 else if 1/0<1 then 4 else 5", 3);
        law("if 2<2 then 3 else 4", 4);
        law("if 1<1+1 then 3+3 else 4", 6);
        law("if 0-1<0 then 3 else 4", 3);
        law("if 2<1 then 3 else if 2<2 then 4 else if 2<3 then 5 else if 2<4 then 6 else 7", 5);
        law("if 2<1 then 3 else if 2<2 then 4 else if 3<3 then 5 else if 2<0 then 6 else 7", 7);
        law("if 2<1 then 3 else if 2<2 then 4 else if 3<3 then 5 else if 2<4 then 6 else 7", 6);
        // 2 to the 31st wraps to the lowest int, which divided by -1 is itself.
        law("8192*8192*32/(0-1)/(0-9999*3000)", 71);
        law("8192*8192*32-1-8192*8192*32+51", 50);
        law("8192*8192*64+5", 5);
        law("if 8192*8192*32<0 then 3 else 4", 3);
        law("((((((deed))))))*2", 20);
        // Much stands open at once: each bracket behind a term and a factor, on both sides of an if.
        String deep = "1+1*(1+1*(1+1*(1+1*(1+1*(1+1*(1+1*2))))))";
        law("if " + deep + "<" + deep + " then 1 else " + deep, 9);
        law("if " + deep + "<1+" + deep + " then 3 else 1", 3);
    }

    private static void variables() {
        String[] names = {"deed", "own", "purse", "place", "session", "which", "cases", "pled", "gone"};
        int[] wants = {33, 6, 40, 1, 2, 3, 4, 1, 5};
        int[] off = {33, 3, 20, 4, 2, 1, 4, 0, 5};
        for (int i = 0; i < names.length; i++) {
            variable(names[i], wants[i], off[i]);
        }
    }

    // d stands at place 1 behind e, which pleads (d paid 3), while b is off the list, in session 2, with five judged.
    private static void variable(String name, int want, int off) {
        CaseBefore x = Due.told("case a 2 10;case b 3 20;case c 4 30;case d 6 43;case e 8 50;doom=" + name + ";plea=" + name + ";fee=if session<2 then 0 else if 0<pled then " + name + " else 3;"
            + "adjourns=if session<2 then 0 else " + name + ";");
        x.sessions(1);
        x.sessions(1);
        for (int docket : new int[] {4, 3, 2, 0}) {
            Due.is("on(" + docket + ")", x.on(docket), true);
        }
        Due.is("plead(4)", x.plead(4), 3);
        Due.is("DOOM = " + name, x.tells(3, 33, 0), want);
        Due.is("PLEA = " + name, x.tells(3, 33, 1), want);
        Due.is("FEE = " + name, x.tells(3, 33, 2), want);
        Due.is("ADJOURNS = " + name, x.docket(3, 6), name.equals("deed") ? 6 : want);
        Due.is("DUE by " + name, x.docket(3, 5), name.equals("deed") ? 6 : want);
        // b is off the list: its place is how many are on it, and nobody ahead of it pleads.
        Due.is("DOOM = " + name + " off the list", x.tells(1, 33, 0), off);
        // e is FIRST: nobody pleads ahead of it; c stands behind d, which does not plead.
        if (name.equals("pled")) {
            Due.is("pled of FIRST", x.tells(4, 33, 0), 0);
            Due.is("pled behind one that does not", x.tells(2, 33, 0), 0);
        }
    }
}
