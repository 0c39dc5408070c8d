/** Each sentence of section II that names an edge: kinds, laws, what is held, the LOT, what a session and what is done by hand come to. */
public final class EdgeSessionsTest {
    private static final String[] LAWS = {"doom", "plea", "fee", "adjourns"};
    private static final String LOWEST = "(8192*8192*32)";
    private static final String HIGHEST = "(8192*8192*32-1)";

    public static void main(String[] args) {
        kindsByTheDeedAhead();
        kindsByThePlace();
        lessThanTheOther();
        theFirstIfThatHolds();
        intsThatWrap();
        roundedTowardsNought();
        dividedByNought();
        whatIsNotLookedAt();
        dividedByNoughtOnlyThere();
        heldToNinetyNine();
        adjournsHeldToAHundred();
        whatIsHeldIsWhatCounts();
        placeOfOneNotOnTheList();
        pledOfFirstAndOfOneNotOnTheList();
        casesAndGone();
        noughtAtLeast();
        roundedDown();
        innocentWhateverTheLaw();
        firstForWhatWasLeft();
        lotOfAHundred();
        lotOfEachSession();
        byHowItWasAsItBegan();
        whatIsLeftBefore();
        nobodyPleadsThen();
        thePurseThatHasNotSoMuch();
        putOffAndOn();
        Due.end();
    }

    private static String cases(int n) {
        return "case a 1 1;case b 1 1;case c 1 1;case d 1 1;case e 1 1;case f 1 1;case g 1 1;".substring(0, 11 * n);
    }

    // Of laws that are looked at for a (alone) and the deed 10.
    private static int sentence(int law, String e) {
        CaseBefore x = Due.told("case a 10 10;" + LAWS[law] + "=" + e + ";");
        return law < 3 ? x.tells(0, 10, law) : x.docket(0, 6);
    }

    private static void eachLaw(String e, int want) {
        for (int law = 0; law < 4; law++) {
            Due.is(LAWS[law] + "=" + e, sentence(law, e), want);
        }
    }

    // "INNOCENT (not FIRST; the DEED of the case ahead is 0), WEDGED (not FIRST; that DEED is above 0, and less than the own one)"
    private static void kindsByTheDeedAhead() {
        // ahead, own, kind at the last place, kind ahead of another one
        int[][] rows = {{0, 0, 1, 1}, {0, 1, 1, 1}, {0, 99, 1, 1}, {1, 0, 3, 4}, {1, 1, 3, 4}, {1, 2, 2, 2}, {1, 99, 2, 2}, {2, 1, 3, 4}, {49, 50, 2, 2}, {50, 50, 3, 4},
            {51, 50, 3, 4}, {98, 99, 2, 2}, {99, 99, 3, 4}, {99, 98, 3, 4}, {99, 0, 3, 4}};
        for (int[] row : rows) {
            String two = "case a " + row[0] + " 0;case b " + row[1] + " 0;";
            Due.is("kind of b of " + two, Due.told(two).suffers(1, 1), row[2]);
            Due.is("kind of a of " + two, Due.told(two).suffers(0, 1), 0);
            Due.is("kind of b of three, " + two, Due.told(two + "case c 5 0;").suffers(1, 1), row[3]);
        }
    }

    // "Of each KIND one place: FIRST (place 0) .. LAST (none of these; the last place), MIDST (none of these)"
    private static void kindsByThePlace() {
        CaseBefore x = Due.told("case a 9 0;");
        Due.row("alone", Due.of(x.suffers(0, 1), x.suffers(0, 0)), 0, 0);
        x = Due.told(cases(7));
        for (int d = 0; d < 7; d++) {
            Due.is("kind of " + d + " of seven", x.suffers(d, 1), d == 0 ? 0 : d == 6 ? 3 : 4);
        }
        x.off(6);
        Due.row("six", Due.of(x.suffers(4, 1), x.suffers(5, 1), x.suffers(6, 1)), 4, 3, -1);
        x.on(6);
        x.go(0, 6);
        Due.row("a last", Due.of(x.suffers(0, 1), x.suffers(1, 1), x.suffers(6, 1)), 3, 0, 4);
        x = Due.told("case a 0 0;case b 9 0;case c 9 0;");
        Due.row("FIRST by its place alone", Due.of(x.suffers(0, 1), x.suffers(1, 1), x.suffers(2, 1)), 0, 1, 3);
        x.off(0);
        Due.row("b FIRST", Due.of(x.suffers(1, 1), x.suffers(2, 1)), 0, 3);
    }

    // "the first if that holds (one less than the other)"
    private static void lessThanTheOther() {
        String[] pairs = {"1<2", "2<2", "3<2", "0-1<0", "0<0-1", "0-2<0-1", "0-1<0-1", "0<0", LOWEST + "<" + HIGHEST, HIGHEST + "<" + LOWEST,
            HIGHEST + "<" + HIGHEST, LOWEST + "<" + LOWEST, LOWEST + "<0", "0<" + HIGHEST, "0-1<" + HIGHEST, LOWEST + "<" + LOWEST + "+1", "deed<10", "deed<11", "9<deed"};
        boolean[] holds = {true, false, false, true, false, true, false, false, true, false, false, false, true, true, true, true, false, true, true};
        for (int i = 0; i < pairs.length; i++) {
            eachLaw("if " + pairs[i] + " then 7 else 5", holds[i] ? 7 : 5);
        }
    }

    // "the E of the first if that holds, else the last one"
    private static void theFirstIfThatHolds() {
        for (int first = 0; first <= 4; first++) {
            for (int others = 0; others <= 1; others++) {
                StringBuilder e = new StringBuilder();
                for (int i = 0; i < 4; i++) {
                    boolean holds = i == first || i > first && others == 1;
                    e.append("if ").append(holds ? "1<2" : "2<2").append(" then ").append(10 + i).append(" else ");
                }
                eachLaw(e.append("14").toString(), 10 + first);
            }
        }
        eachLaw("14", 14);
    }

    // "ints of 32 bits that wrap"
    private static void intsThatWrap() {
        eachLaw("if " + HIGHEST + "+1<0 then 7 else 5", 7);
        eachLaw("if 0<" + LOWEST + "-1 then 7 else 5", 7);
        eachLaw("if 0-" + LOWEST + "<0 then 7 else 5", 7);
        eachLaw("if " + LOWEST + "/(0-1)<0 then 7 else 5", 7);
        eachLaw(LOWEST + "/(0-1)-" + LOWEST + "+8", 8);
        eachLaw(HIGHEST + "*2+9", 7);
        eachLaw(HIGHEST + "*" + HIGHEST + "+9", 10);
        eachLaw(LOWEST + "*" + LOWEST + "+9", 9);
        eachLaw(LOWEST + "+" + LOWEST + "+9", 9);
        eachLaw("8192*8192*64+9", 9);
        eachLaw("8192*8192*32/8192/8192+99", 67);
        eachLaw("9999*9999*9999-9999*9999*9999/97*97+97", 9999 * 9999 * 9999 % 97 + 97);
        eachLaw("9999*9999/9999/9999+4", 5);
        eachLaw("9999*9999*9999/9999/9999+50", 9999 * 9999 * 9999 / 9999 / 9999 + 50);
        // What wrapped is held as it is then.
        for (int law = 0; law < 4; law++) {
            Due.is("held above", sentence(law, HIGHEST), law < 3 ? 99 : 100);
            Due.is("held below", sentence(law, LOWEST), 0);
            Due.is("held behind it wrapped to below", sentence(law, HIGHEST + "+1"), 0);
            Due.is("held behind it wrapped to above", sentence(law, LOWEST + "-1"), law < 3 ? 99 : 100);
        }
    }

    // "/ rounded towards 0"
    private static void roundedTowardsNought() {
        eachLaw("50+7/2", 53);
        eachLaw("50+(0-7)/2", 47);
        eachLaw("50+7/(0-2)", 47);
        eachLaw("50+(0-7)/(0-2)", 53);
        eachLaw("50+(0-1)/2", 50);
        eachLaw("50+(0-2)/2", 49);
        eachLaw("50+(0-99)/100", 50);
        eachLaw("50+(0-100)/100", 49);
        eachLaw("50+1/2", 50);
        eachLaw("50+0/7", 50);
        eachLaw("50+7/7", 51);
        eachLaw("50+6/7", 50);
        eachLaw("7/2*2", 6);
        eachLaw("100/3/3", 11);
    }

    // "a LAW in which something that is looked at is divided by 0 is 0"
    private static void dividedByNought() {
        for (String e : new String[] {"1/0", "0/0", "50+1/0", "50-1/0", "50+0*(1/0)", "1/0+50", "50+1/(deed-deed)", "50+(0-7)/0", "50+7/(1/2)", "50/(7/8)",
            "50+0/(1/0+1)", "if 1/0<2 then 7 else 5", "if 1<2/0 then 7 else 5", "if 2<1/0 then 7 else 5", "if 1<2 then 7/0 else 5", "if 2<1 then 7 else 5/0",
            "if 1<1 then 7 else if 1/0<2 then 6 else 5", "if 1<1 then 7 else if 1<2 then 6/0 else 5",
            "if 1<1 then 9 else if 2<2 then 8 else if 3<3 then 7 else if 4/0<4 then 6 else 5", "if 1<1 then 9 else if 2<2 then 8 else if 3<3 then 7 else if 4<4 then 6 else 5/0",
            "if 1<1 then 9 else if 2<2 then 8 else if 3<3 then 7 else if 4<5 then 6/0 else 5", LOWEST + "/0", "50+((((((1/0))))))*0"}) {
            eachLaw(e, 0);
        }
    }

    private static void whatIsNotLookedAt() {
        for (String e : new String[] {"if 2<1 then 7/0 else 5", "if 2<1 then 1/0 else if 3<1 then 2/0 else if 4<1 then 3/0 else if 5<1 then 4/0 else 5",
            "if 1<2 then 5 else 7/0", "if 1<2 then 5 else if 1/0<2 then 7 else 8", "if 1<2 then 5 else if 1<2/0 then 7/0 else 8/0",
            "if 2<1 then 1/0 else if 1<2 then 5 else if 1/0<1/0 then 1/0 else if 1/0<1/0 then 1/0 else 1/0", "5+0/1", "5/1+0/5"}) {
            eachLaw(e, 5);
        }
    }

    // It is 0 only for whom, and for what, it is divided by 0.
    private static void dividedByNoughtOnlyThere() {
        CaseBefore x = Due.told("case a 10 1;case b 20 2;case c 30 3;before 9;doom=60/place;");
        Due.row("DOOM by places", Due.of(x.tells(0, 5, 0), x.tells(1, 5, 0), x.tells(2, 5, 0)), 0, 60, 30);
        Due.row("SUFFERS by places", Due.of(x.suffers(0, 0), x.suffers(1, 0), x.suffers(2, 0)), 0, 30, 15);
        x = Due.told("case a 10 1;case b 20 2;doom=60/(deed-4);plea=60/session;fee=60/pled;adjourns=60/which;");
        Due.row("DOOM by deeds", Due.of(x.tells(0, 3, 0), x.tells(0, 4, 0), x.tells(0, 5, 0)), 0, 0, 60);
        Due.row("PLEA in session 0", Due.of(x.tells(0, 3, 1), x.tells(1, 3, 1)), 0, 0);
        Due.row("ADJOURNS by numbers", Due.of(x.docket(0, 6), x.docket(1, 6)), 0, 60);
        Due.row("a FEE of 0 is paid", Due.of(x.plead(0), x.docket(1, 1), x.tells(1, 3, 2), x.tells(0, 3, 2)), 0, 2, 60, 0);
    }

    // "DOOM, PLEA, FEE held to 0 .. 99"
    private static void heldToNinetyNine() {
        for (int law = 0; law < 3; law++) {
            for (int n : new int[] {0, 1, 2, 97, 98, 99, 100, 101, 127, 128, 199, 255, 256, 9999}) {
                Due.is(LAWS[law] + " held, " + n, sentence(law, String.valueOf(n)), Math.min(99, n));
                Due.is(LAWS[law] + " held, below by " + n, sentence(law, "0-" + n), 0);
            }
        }
    }

    // "ADJOURNS to 0 .. 100"
    private static void adjournsHeldToAHundred() {
        for (int n : new int[] {0, 1, 2, 98, 99, 100, 101, 102, 127, 128, 199, 255, 256, 9999}) {
            Due.is("ADJOURNS held, " + n, sentence(3, String.valueOf(n)), Math.min(100, n));
            Due.is("ADJOURNS held, below by " + n, sentence(3, "0-" + n), 0);
        }
    }

    // What is added, halved or paid is what was held.
    private static void whatIsHeldIsWhatCounts() {
        CaseBefore x = Due.told("case a 40 9;case b 30 9;case c 31 9;case d 30 9;before 7;doom=500;plea=0-500;fee=0-500;");
        Due.row("DOOM 99", Due.of(x.suffers(0, 0), x.suffers(1, 0), x.suffers(2, 0), x.suffers(3, 0)), 99, 99, 49, 99 + 7);
        Due.row("a FEE of 0, a PLEA of 0", Due.of(x.plead(0), x.docket(1, 1), x.suffers(1, 0)), 0, 9, 99);
        x = Due.told("case a 40 99;case b 30 99;case c 30 98;doom=150;plea=98;fee=150;");
        Due.row("a FEE of 99, DOOM 99 less 98", Due.of(x.plead(0), x.docket(1, 1), x.suffers(1, 0), x.plead(1)), 99, 0, 1, -1);
        x = Due.told("case a 40 99;case b 30 99;doom=0-50;plea=0-99;fee=0;");
        x.plead(0);
        Due.row("DOOM of 0 and a PLEA of 0", Due.of(x.suffers(0, 0), x.suffers(1, 0), x.docket(0, 5)), 0, 7, 0);
    }

    // "place: where it is on the LIST (not on it: how many are on it)"
    private static void placeOfOneNotOnTheList() {
        CaseBefore x = Due.told(cases(7) + "doom=place;plea=place;fee=place;adjourns=place;");
        for (int off = 0; off < 7; off++) {
            for (int d = 0; d < 7; d++) {
                int want = d < off ? 7 - off : d - off;
                Due.row("place of " + d + " of " + (7 - off), Due.of(x.tells(d, 50, 0), x.tells(d, 50, 1), x.tells(d, 50, 2), x.docket(d, 6)), want, want, want, want);
                Due.row("place and DUE", Due.of(x.docket(d, 2), x.docket(d, 5)), d < off ? -2 : d - off, want);
            }
            x.off(off);
        }
        Due.row("none on it", Due.of(x.tells(0, 50, 0), x.tells(6, 50, 2), x.docket(3, 5)), 0, 0, 0);
    }

    // "pled: 1 if the case ahead of it on the LIST PLEADS (FIRST, not on it: 0), else 0"
    private static void pledOfFirstAndOfOneNotOnTheList() {
        CaseBefore x = Due.told(cases(4) + "doom=50+pled;plea=50-pled;fee=60+pled;adjourns=70+pled;fee=0;");
        Due.is("plead(1)", x.plead(1), 0);
        Due.is("plead(2)", x.plead(2), 0);
        x.off(0);
        // On the list b (pleads), c (pleads), d; a is not on it.
        int[] pled = {0, 0, 1, 1};
        for (int d = 0; d < 4; d++) {
            Due.row("pled of " + d, Due.of(x.tells(d, 5, 0), x.tells(d, 5, 1), x.docket(d, 6), x.docket(d, 5)), 50 + pled[d], 50 - pled[d], 70 + pled[d], 50 + pled[d]);
        }
        // d ahead of b: c is the last one, and pleads; a, off the list, is behind nobody.
        x.go(3, 0);
        Due.row("d b c", Due.list(x), 3, 1, 2);
        Due.row("pled", Due.of(x.tells(0, 5, 0), x.tells(1, 5, 0), x.tells(2, 5, 0), x.tells(3, 5, 0)), 50, 50, 51, 50);
        x.on(0);
        Due.row("a behind c", Due.of(x.tells(0, 5, 0), x.docket(0, 6)), 51, 71);
        x.undo();
        x.off(1);
        Due.row("c behind d", Due.of(x.tells(2, 5, 0), x.tells(3, 5, 0), x.tells(1, 5, 0)), 50, 50, 50);
    }

    // "cases: how many are on the LIST"; "gone: how many were judged so far"; "session", "which", "purse", "own"
    private static void casesAndGone() {
        CaseBefore x = new CaseBefore();
        Due.is("session of nothing", x.count(2), 0);
        x = Due.told(cases(7) + "doom=cases*10+gone;");
        for (int off = 0; off < 7; off++) {
            Due.row("cases " + (7 - off), Due.of(x.tells(0, 5, 0), x.tells(6, 5, 0)), (7 - off) * 10, (7 - off) * 10);
            x.off(off);
        }
        Due.is("cases 0", x.tells(0, 5, 0), 0);
        x.on(3);
        x.on(4);
        x.sessions(1);
        Due.row("gone 2", Due.of(x.tells(0, 5, 0), x.count(12)), 2, 2);
        x.on(3);
        x.sessions(1);
        Due.row("one judged twice", Due.of(x.tells(0, 5, 0), x.count(12)), 3, 3);
        x.sessions(40);
        Due.is("none judged", x.count(12), 3);
        x = Due.told("case a 9 40;case b 8 50;doom=purse;fee=session*3;plea=which*30+own;");
        Due.row("purse and own", Due.of(x.tells(0, 5, 0), x.tells(1, 5, 0), x.tells(0, 5, 1), x.tells(1, 5, 1), x.tells(1, 5, 2)), 40, 50, 9, 38, 0);
        x.sessions(40);
        Due.is("session 40", x.tells(1, 5, 2), 99);
        x.undo();
        x.sessions(7);
        Due.is("session 7", x.tells(1, 5, 2), 21);
    }

    // "less PLEA for that, if the case ahead PLEADS (0 at least)"
    private static void noughtAtLeast() {
        for (int plea : new int[] {0, 1, 39, 40, 41, 99}) {
            int less = Math.max(0, 40 - plea);
            // c is behind b; b WEDGED, MIDST or LAST behind a of 40.
            for (String own : new String[] {"41", "39", "40"}) {
                CaseBefore x = Due.told("case a 40 0;case b " + own + " 0;case c 5 0;fee=0;plea=" + plea + ";");
                Due.is("suffers without a plea", x.suffers(1, 0), own.equals("41") ? 20 : 40);
                x.plead(0);
                Due.is("DEED " + own + ", PLEA " + plea, x.suffers(1, 0), own.equals("41") ? less / 2 : less);
                x.off(2);
                Due.is("at the last place, DEED " + own + ", PLEA " + plea, x.suffers(1, 0), own.equals("41") ? less / 2 : less + Integer.parseInt(own) / 4);
            }
        }
        // FIRST and INNOCENT have nothing taken off.
        CaseBefore x = Due.told("case a 0 0;case b 5 0;before 50;fee=0;plea=99;doom=50;");
        x.plead(0);
        Due.row("INNOCENT behind one that pleads", Due.of(x.suffers(0, 0), x.suffers(1, 0)), 50, 0);
        x = Due.told("case a 9 0;case b 9 0;case c 9 0;before 50;fee=0;plea=99;doom=50;");
        x.plead(0);
        x.plead(1);
        x.off(0);
        Due.row("FIRST and behind it", Due.of(x.suffers(1, 0), x.suffers(2, 0)), 50, 2);
    }

    // "WEDGED: half of that, rounded down; LAST: that and a quarter of its own DEED, rounded down"
    private static void roundedDown() {
        for (int ahead : new int[] {1, 2, 3, 4, 5, 49, 97, 98}) {
            CaseBefore x = Due.told("case a " + ahead + " 0;case b 99 0;case c 0 0;");
            Due.is("half of " + ahead, x.suffers(1, 0), ahead / 2);
            x = Due.told("case a " + ahead + " 99;case b 99 99;case c 0 0;fee=0;plea=1;");
            x.plead(0);
            Due.is("half of one less than " + ahead, x.suffers(1, 0), (ahead - 1) / 2);
        }
        for (int own : new int[] {0, 1, 2, 3, 4, 5, 6, 7, 8, 11, 12, 95, 96, 98, 99}) {
            CaseBefore x = Due.told("case a 99 0;case b " + own + " 0;doom=deed-50;");
            Due.is("a quarter of " + own, x.suffers(1, 0), 49 + own / 4);
        }
    }

    // "INNOCENT: 0"
    private static void innocentWhateverTheLaw() {
        for (String doom : new String[] {"99", "deed+50", "0-5", "1/0", "place*50"}) {
            CaseBefore x = Due.told("case a 0 0;case b 9 0;case c 0 0;doom=" + doom + ";");
            Due.row("INNOCENT by " + doom, Due.of(x.suffers(1, 0), x.suffers(1, 1)), 0, 1);
            x.change(1, 2);
            Due.row("INNOCENT of DEED 0 by " + doom, Due.of(x.suffers(2, 0), x.suffers(2, 1), x.suffers(1, 0), x.suffers(1, 1)), 0, 1, 0, 1);
        }
    }

    // "FIRST: DOOM for what was left BEFORE"
    private static void firstForWhatWasLeft() {
        for (int before : new int[] {0, 1, 50, 99}) {
            CaseBefore x = Due.told("case a 30 0;case b 5 0;before " + before + ";doom=deed/2+own;plea=99;");
            Due.row("FIRST behind " + before, Due.of(x.suffers(0, 0), x.docket(0, 5)), before / 2 + 30, 45);
            x.off(1);
            Due.is("FIRST and alone", x.suffers(0, 0), before / 2 + 30);
        }
    }

    // "ADJOURNED if LOT 100 .. is less than ADJOURNS": at 0 never, at 100 always.
    private static void lotOfAHundred() {
        int none = seedOfLot(0);
        int most = seedOfLot(99);
        // LOT 0: at ADJOURNS 0 not, at 1 it is; LOT 99: at 99 not, at 100 it is.
        int[][] rows = {{none, 0, 0}, {none, 1, 1}, {none, 2, 1}, {none, 100, 1}, {most, 0, 0}, {most, 98, 0}, {most, 99, 0}, {most, 100, 1}};
        for (int[] row : rows) {
            CaseBefore x = Due.told("case a 5 1;seed " + row[0] + ";adjourns=" + row[1] + ";");
            Due.is("listIn by LOT of " + row[0] + " and " + row[1], x.listIn(1, 0), row[2]);
            Due.is("year", x.year(0, 1, 1), row[2]);
            x.sessions(1);
            Due.is("sessions", x.count(1), row[2]);
        }
        for (int seed : new int[] {0, 1, 5000, 9999}) {
            String head = cases(7) + "seed " + seed + ";adjourns=";
            Due.is("ADJOURNS 0", Due.told(head + "0;").listIn(1, 0), 0);
            Due.is("ADJOURNS 101", Due.told(head + "101;").listIn(40, 0), 7);
            Due.is("ADJOURNS below 0", Due.told(head + "0-1;").listIn(1, 0), 0);
        }
    }

    private static int seedOfLot(int lot) {
        for (int seed = 0; seed <= 9999; seed++) {
            if (Due.lot(seed, 0) == lot) {
                return seed;
            }
        }
        Due.differs("no SEED of LOT " + lot);
        return 0;
    }

    // "LOT 100 of the SEED and 8 * the session and its number": for each session, each number, the lowest and the highest SEED.
    private static void lotOfEachSession() {
        for (int seed : new int[] {0, 1, 2, 4711, 9998, 9999}) {
            CaseBefore x = Due.told(cases(7) + "seed " + seed + ";adjourns=60;");
            for (int session = 0; session < 12; session++) {
                x.sessions(1);
                for (int d = 0; d < 7; d++) {
                    boolean stays = Due.lot(seed, 8 * session + d) < 60;
                    Due.is("SEED " + seed + ", session " + session + ", " + d, x.docket(d, 2) == -2, !stays);
                    if (!stays) {
                        x.on(d);
                    }
                }
            }
        }
        // Sessions go by as many at once as one by one.
        for (int n : new int[] {1, 2, 39, 40}) {
            Twin.comeToTheSame(n + " sessions", x -> {
                Due.feed(x, "case a 9 9;case b 8 9;case c 7 9;seed 321;adjourns=97;");
                x.read();
                return x.sessions(n);
            }, x -> {
                Due.feed(x, "case a 9 9;case b 8 9;case c 7 9;seed 321;adjourns=97;");
                x.read();
                x.hold(0);
                int session = 0;
                for (int i = 0; i < n; i++) {
                    session = x.sessions(1);
                }
                // One thing done instead of many: held ahead of them, had back, then done at once, as the other did.
                Due.is("session", session, n);
                long[] one = Due.of(x.count(1), x.count(3), x.count(5), x.count(12), x.docket(0, 2), x.docket(1, 2), x.docket(2, 2));
                Due.feed(x, "case a 9 9;case b 8 9;case c 7 9;seed 321;adjourns=97;");
                x.read();
                x.sessions(n);
                Due.row("at once", Due.of(x.count(1), x.count(3), x.count(5), x.count(12), x.docket(0, 2), x.docket(1, 2), x.docket(2, 2)), one);
                return 0;
            });
        }
    }

    // "A SESSION, all by how it was as it began"
    private static void byHowItWasAsItBegan() {
        // gone, cases, place, pled and what is left over are those of the beginning for all, though others are judged ahead.
        CaseBefore x = Due.told("case a 9 0;case b 8 0;case c 7 0;before 5;doom=deed+gone*20+cases*10+place;fee=0;plea=1;");
        x.plead(1);
        long[] would = {5 + 30, 9 + 30 + 1, 8 + 30 + 2 - 1 + 1};
        Due.row("suffers", Due.of(x.suffers(0, 0), x.suffers(1, 0), x.suffers(2, 0)), would);
        x.sessions(1);
        Due.row("suffered", Due.of(x.docket(0, 3), x.docket(1, 3), x.docket(2, 3)), would);
        Due.row("then", Due.of(x.count(12), x.count(3)), 3, 7);
        for (int d = 0; d < 3; d++) {
            x.on(d);
        }
        Due.row("in the next session", Due.of(x.suffers(0, 0), x.suffers(1, 0), x.suffers(2, 0)), 7 + 60 + 30, 99, 99 + 1);
        // ADJOURNS, too: by places as it began, of which b at 1 alone is adjourned, though a is judged ahead of it.
        x = Due.told("case a 9 0;case b 8 0;case c 7 0;adjourns=if place<1 then 0 else if place<2 then 100 else 0;");
        x.sessions(1);
        Due.row("b alone stays", Due.list(x), 1);
        x = Due.told("case a 9 0;case b 8 0;case c 7 0;fee=0;adjourns=pled*100;");
        x.plead(0);
        x.sessions(1);
        Due.row("behind one that pleads", Due.list(x), 1);
        x = Due.told("case a 9 0;case b 8 0;case c 7 0;adjourns=gone*100;");
        x.sessions(1);
        Due.row("gone as it began", Due.list(x));
        x = Due.told("case a 9 0;case b 8 0;case c 7 0;adjourns=session*100;");
        x.sessions(1);
        Due.row("session as it began", Due.list(x));
        // What one behind an adjourned one suffers is for that one.
        x = Due.told("case a 9 0;case b 8 0;case c 7 0;before 5;adjourns=if place<1 then 0 else if place<2 then 100 else 0;");
        x.sessions(1);
        Due.row("c for b", Due.of(x.docket(0, 3), x.docket(1, 3), x.docket(2, 3), x.count(3)), 5, 0, 8 + 1, 7);
    }

    // "BEFORE is the DEED of the last on the LIST that was not ADJOURNED (all were: as it was)"
    private static void whatIsLeftBefore() {
        for (int bits = 0; bits < 8; bits++) {
            CaseBefore x = Due.told("case a 11 0;case b 22 0;case c 33 0;before 44;adjourns=if which<1 then " + (bits & 1) * 100 + " else if which<2 then "
                + (bits >> 1 & 1) * 100 + " else " + (bits >> 2 & 1) * 100 + ";");
            // The list is c a b: the last one is b.
            x.go(2, 0);
            int left = (bits & 2) == 0 ? 22 : (bits & 1) == 0 ? 11 : (bits & 4) == 0 ? 33 : 44;
            Due.is("listIn by " + bits, x.listIn(1, 1), left);
            x.sessions(1);
            Due.row("left by " + bits, Due.of(x.count(3), x.count(1), x.count(12)), left, Integer.bitCount(bits), 3 - Integer.bitCount(bits));
        }
        CaseBefore x = Due.told("case a 11 0;case b 0 0;before 44;");
        x.off(0);
        x.off(1);
        x.sessions(3);
        Due.row("none on the LIST: as it was", Due.of(x.count(3), x.count(2)), 44, 3);
        x.on(0);
        x.on(1);
        x.sessions(1);
        Due.is("a DEED of 0 is left over, too", x.count(3), 0);
        x.on(0);
        Due.is("FIRST for that", x.suffers(0, 0), 0);
    }

    // "Nobody PLEADS then."
    private static void nobodyPleadsThen() {
        for (int adjourns : new int[] {0, 100}) {
            CaseBefore x = Due.told(cases(3) + "fee=0;adjourns=" + adjourns + ";");
            x.plead(0);
            x.plead(1);
            x.sessions(0);
            Due.is("they plead still", x.count(6), 3);
            x.sessions(1);
            Due.row("nobody pleads", Due.of(x.count(6), x.docket(0, 4), x.docket(1, 4)), 0, 0, 0);
            x.undo();
            Due.is("they plead again", x.count(6), 3);
        }
    }

    // "paid out of the PURSE of that, if it has so much"
    private static void thePurseThatHasNotSoMuch() {
        for (int purse : new int[] {0, 1, 9, 10, 11, 99}) {
            for (int fee : new int[] {0, 1, 9, 10, 11, 98, 99, 100}) {
                int paid = Math.min(99, fee);
                CaseBefore x = Due.told("case a 40 77;case b 30 " + purse + ";case c 20 66;fee=" + fee + ";");
                Due.is("FEE " + fee + " out of " + purse, x.plead(0), purse >= paid ? paid : -1);
                Due.row("purses, who pleads, things done", Due.of(x.docket(0, 1), x.docket(1, 1), x.docket(2, 1), x.count(6), x.count(9)),
                    77, purse >= paid ? purse - paid : purse, 66, purse >= paid ? 1 : 0, purse >= paid ? 1 : 0);
            }
        }
        // The FEE is looked at as it is for the one behind, the purse now.
        CaseBefore x = Due.told("case a 40 5;case b 30 50;case c 20 5;fee=purse-which*10;");
        Due.row("by the purse behind", Due.of(x.plead(0), x.docket(1, 1), x.plead(1), x.docket(2, 1)), 40, 10, 0, 5);
        x.undo();
        x.undo();
        x.change(1, 2);
        // c stands behind a now, b behind c: FEE for c is 5 - 20, of b 50 - 10.
        Due.row("changed", Due.of(x.plead(0), x.plead(2), x.plead(1)), 0, 40, -1);
    }

    // "one on the LIST is put off it (it PLEADS no more), one off it comes to its end"
    private static void putOffAndOn() {
        CaseBefore x = Due.told(cases(4) + "fee=0;");
        x.plead(0);
        x.plead(1);
        x.off(0);
        Due.row("a pleads no more, b does", Due.of(x.count(6), x.docket(0, 4), x.docket(1, 4)), 2, 0, 1);
        x.on(0);
        Due.row("a comes to the end and does not plead", Due.of(x.count(6), x.docket(0, 2)), 2, 3);
        x.undo();
        x.undo();
        Due.row("a pleads again", Due.of(x.count(6), x.docket(0, 2)), 3, 0);
        for (int d = 0; d < 4; d++) {
            x.off(d);
        }
        Due.row("none", Due.of(x.count(1), x.count(6), x.count(15)), 0, 0, 15);
        x.on(2);
        Due.row("one on an empty LIST", Due.of(x.count(1), x.docket(2, 2), x.suffers(2, 1)), 1, 0, 0);
        x.on(0);
        x.on(3);
        x.on(1);
        Due.row("to its end, each", Due.list(x), 2, 0, 3, 1);
    }
}
