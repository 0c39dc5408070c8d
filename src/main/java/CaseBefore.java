/** A circuit whose judge gives sentence always in the case that was before. */
public final class CaseBefore {
    public static final int NONE = -1;

    private static final int ABSENT = -2;
    private static final int NO_GAIN = -100000;

    private static final int MOST_BYTES = 2000;
    private static final int FED_BYTES = 20;
    private static final int MOST_TOKENS = 400;
    private static final int MOST_LETTERS = 8;
    private static final int MOST_DIGITS = 4;
    private static final int MOST_IFS = 4;
    private static final int MOST_BRACKETS = 6;
    private static final int MOST_CASES = 7;
    private static final int MOST_DEED = 99;
    private static final int MOST_SEED = 9999;
    private static final int MOST_SENTENCE = 99;
    private static final int MOST_CHANCE = 100;
    private static final int MOST_ORDERS = 5040;
    private static final int MOST_SESSIONS = 40;
    private static final int MOST_SEEDS = 20;
    private static final int MOST_TRADES = 50;
    private static final int MOST_TOLD = 20;
    private static final int MOST_VALUE = 999;
    private static final int MOST_UNDONE = 40;
    private static final int SLOTS = 3;

    private static final int SYNTAX = 1;
    private static final int ROOM = 2;
    private static final int TWICE = 3;
    private static final int WRONG = 5;

    // Kinds of tokens: the signs stand as in SIGNS_TEXT, the words as in WORDS_TEXT.
    private static final int END = 0;
    private static final int NO_TOKEN = 1;
    private static final int NAME = 2;
    private static final int INT = 3;
    private static final int SEMICOLON = 4;
    private static final int EQUALS = 5;
    private static final int PLUS = 6;
    private static final int MINUS = 7;
    private static final int TIMES = 8;
    private static final int OVER = 9;
    private static final int LESS = 10;
    private static final int OPEN = 11;
    private static final int CLOSE = 12;
    private static final int WORD_CASE = 13;
    private static final int WORD_BEFORE = 14;
    private static final int WORD_DOOM = 15;
    private static final int WORD_SEED = 19;
    private static final int WORD_IF = 20;
    private static final int WORD_THEN = 21;
    private static final int WORD_ELSE = 22;
    private static final int WORD_DEED = 23;
    private static final int WORD_GONE = 31;
    private static final String SIGNS_TEXT = ";=+-*/<()";
    private static final String WORDS_TEXT = "case    before  doom    plea    fee     adjournsseed    if      then    else    deed    own     purse   place   session which   cases   pled    gone    ";

    private static final int DOOM = 0;
    private static final int PLEA = 1;
    private static final int FEE = 2;
    private static final int ADJOURNS = 3;
    private static final int LAWS = 4;

    private static final int VAR_DEED = 0;
    private static final int VAR_OWN = 1;
    private static final int VAR_PURSE = 2;
    private static final int VAR_PLACE = 3;
    private static final int VAR_SESSION = 4;
    private static final int VAR_WHICH = 5;
    private static final int VAR_CASES = 6;
    private static final int VAR_PLED = 7;
    private static final int VAR_GONE = 8;
    private static final int VARS = 9;

    // Steps of a law, kept as 8 * a number and the step.
    private static final int STEP_INT = 0;
    private static final int STEP_VAR = 1;
    private static final int STEP_ADD = 2;
    private static final int STEP_SUBTRACT = 3;
    private static final int STEP_MULTIPLY = 4;
    private static final int STEP_DIVIDE = 5;
    private static final int STEP_UNLESS = 6;
    private static final int STEP_FINISH = 7;

    private static final int FIRST = 0;
    private static final int INNOCENT = 1;
    private static final int WEDGED = 2;
    private static final int LAST = 3;
    private static final int MIDST = 4;

    private static final int LEAST = 0;
    private static final int MOST = 1;
    private static final int NEAREST = 2;
    private static final int MILDEST = 3;

    private final Tape tape = new Tape();
    private final Text text = new Text();
    private final Reader reader = new Reader(tape);
    private final Judge judge = new Judge(text);
    private final Orders orders = new Orders(judge);
    private final Outlook outlook = new Outlook(text, judge);
    private final Told told = new Told();
    private final State now = new State();
    private final History history = new History();
    private final State[] slots = new State[SLOTS];
    private int heldSlots;
    private int faultPlace = NONE;

    public CaseBefore() {
        for (int i = 0; i < SLOTS; i++) {
            slots[i] = new State();
        }
    }

    public int feed(int a, int b, int c, int d, int e) {
        if (tape.length > MOST_BYTES - FED_BYTES) {
            return NONE;
        }
        tape.putWord(a);
        tape.putWord(b);
        tape.putWord(c);
        tape.putWord(d);
        tape.putWord(e);
        return tape.length;
    }

    public int back(int n) {
        if (n < 0 || n > tape.length) {
            return NONE;
        }
        tape.length -= n;
        return tape.length;
    }

    public int read() {
        int fault = reader.readTape();
        tape.length = 0;
        faultPlace = fault == 0 ? NONE : reader.faultPlace;
        if (fault == 0) {
            text.copyFrom(reader.draft);
            now.begin(text);
            history.size = 0;
            told.size = 0;
            heldSlots = 0;
        }
        return fault;
    }

    public int place() {
        return faultPlace;
    }

    public int docket(int docket, int what) {
        if (!text.has(docket)) {
            return NONE;
        }
        switch (what) {
            case 0: return text.deeds[docket];
            case 1: return now.purses[docket];
            case 2: return now.isListed(docket) ? now.placeOf(docket) : ABSENT;
            case 3: return now.suffered[docket];
            case 4: return now.isPleading(docket) ? 1 : 0;
            case 5: return judge.dueAsListed(now, docket);
            case 6: return judge.chanceOfAdjourning(now, docket);
            default: return NONE;
        }
    }

    public int suffers(int docket, int what) {
        int place = now.placeOf(docket);
        if (place == NONE) {
            return NONE;
        }
        switch (what) {
            case 0: return judge.suffering(now, docket, place, now.aheadOf(place));
            case 1: return judge.kindOf(now, docket, place, now.aheadOf(place));
            default: return NONE;
        }
    }

    public int tells(int docket, int deed, int what) {
        if (!text.has(docket) || deed < 0 || deed > MOST_DEED || what < DOOM || what > FEE) {
            return NONE;
        }
        judge.seatAsListed(now, docket);
        return judge.sentence(what, deed);
    }

    public int at(int place) {
        return now.docketAt(place);
    }

    public boolean change(int docket, int other) {
        if (docket == other || !now.isListed(docket) || !now.isListed(other)) {
            return false;
        }
        history.remember(now);
        now.swap(docket, other);
        return true;
    }

    public boolean go(int docket, int place) {
        if (!now.isListed(docket) || now.docketAt(place) == NONE || now.placeOf(docket) == place) {
            return false;
        }
        history.remember(now);
        now.move(docket, place);
        return true;
    }

    public boolean off(int docket) {
        if (!now.isListed(docket)) {
            return false;
        }
        history.remember(now);
        now.strike(docket);
        return true;
    }

    public boolean on(int docket) {
        if (!text.has(docket) || now.isListed(docket)) {
            return false;
        }
        history.remember(now);
        now.append(docket);
        return true;
    }

    public int plead(int docket) {
        int payer = now.behindOf(docket);
        if (!text.has(payer) || now.isPleading(docket)) {
            return NONE;
        }
        judge.seatAsListed(now, payer);
        int fee = judge.sentence(FEE, text.deedOf(docket));
        if (now.purses[payer] < fee) {
            return NONE;
        }
        history.remember(now);
        now.purses[payer] -= fee;
        now.letPlead(docket);
        return fee;
    }

    public int sessions(int n) {
        if (n < 0 || n > MOST_SESSIONS) {
            return NONE;
        }
        if (n > 0) {
            history.remember(now);
            judge.goThrough(now, n, text.seed);
        }
        return now.session;
    }

    public boolean undo() {
        return history.takeBack(now);
    }

    public int best(int goal, int i) {
        if (goal < LEAST || goal > MILDEST || i < ABSENT || i >= now.listed) {
            return NONE;
        }
        orders.layFirst(now);
        orders.seekBest(goal);
        if (i == NONE) {
            return orders.bestMuch;
        }
        return i == ABSENT ? orders.bestWays : orders.bestAt(i);
    }

    public int traders(int docket) {
        if (!now.isListed(docket)) {
            return NONE;
        }
        orders.layAsListed(now);
        return orders.tradersOf(docket);
    }

    public int gain(int docket, int other) {
        if (docket == other || !now.isListed(docket) || !now.isListed(other)) {
            return NO_GAIN;
        }
        return outlook.gainOfSwap(now, docket, other);
    }

    public int behind(int docket) {
        if (!now.isListed(docket)) {
            return NONE;
        }
        int next = now.behindOf(docket);
        return next == NONE ? ABSENT : next;
    }

    public int rests() {
        orders.layFirst(now);
        return orders.countResting();
    }

    public int settles() {
        orders.layAsListed(now);
        return orders.countTrades();
    }

    public int shunned(int what) {
        if (what < 0 || what > 1) {
            return NONE;
        }
        outlook.seekShunned(now);
        return outlook.answer(what);
    }

    public int buyers() {
        return outlook.buyersOf(now);
    }

    public int lighter(int what) {
        if (what < 0 || what > 1) {
            return NONE;
        }
        outlook.seekLighter(now);
        return outlook.answer(what);
    }

    public int furthest(int docket, int what) {
        if (!now.isListed(docket) || what < 0 || what > 1) {
            return NONE;
        }
        outlook.seekFurthest(now, docket);
        return outlook.answer(what);
    }

    public int then(int docket, int n) {
        if (!text.has(docket) || n < 0 || n > MOST_SESSIONS) {
            return NONE;
        }
        return outlook.inSessions(now, n).suffered[docket];
    }

    public int listIn(int n, int what) {
        if (n < 0 || n > MOST_SESSIONS || what < 0 || what > 1) {
            return NONE;
        }
        State later = outlook.inSessions(now, n);
        return what == 0 ? later.listed : later.before;
    }

    public int year(int docket, int n, int s) {
        if (!text.has(docket) || n < 0 || n > MOST_SESSIONS || s < 1 || s > MOST_SEEDS) {
            return NONE;
        }
        return outlook.seedsThatKeep(now, docket, n, s);
    }

    public int tell(int place, int v, boolean so) {
        if (place < 0 || place >= MOST_CASES || v < 0 || v > MOST_VALUE) {
            return NONE;
        }
        return told.add(place, v, so);
    }

    public int forget() {
        int forgotten = told.size;
        told.size = 0;
        return forgotten;
    }

    public int fits(int k, int what) {
        if (k < 0 || k > told.size || what < 0 || what > 1) {
            return NONE;
        }
        orders.layFirst(now);
        told.seekFitting(orders, k, 0);
        if (what == 0) {
            return told.fitting;
        }
        return told.fitting == 0 ? ABSENT : told.firstFitting;
    }

    public int ask(int k, int v) {
        if (k < 0 || k > told.size || v < 0 || v > MOST_VALUE) {
            return NONE;
        }
        orders.layFirst(now);
        told.seekFitting(orders, k, v);
        return told.fitting == 0 ? ABSENT : told.placeToAsk(now.listed);
    }

    public boolean hold(int slot) {
        if (slot < 0 || slot >= SLOTS) {
            return false;
        }
        slots[slot].copyFrom(now);
        heldSlots |= 1 << slot;
        return true;
    }

    public boolean restore(int slot) {
        if (slot < 0 || slot >= SLOTS || (heldSlots >> slot & 1) == 0) {
            return false;
        }
        now.copyFrom(slots[slot]);
        history.size = 0;
        return true;
    }

    public int count(int what) {
        switch (what) {
            case 0: return text.cases;
            case 1: return now.listed;
            case 2: return now.session;
            case 3: return now.before;
            case 4: return judge.allSuffering(now);
            case 5: return added(now.suffered);
            case 6: return now.pleading;
            case 7: return added(now.purses);
            case 8: return tape.length;
            case 9: return history.size;
            case 10: return told.size;
            case 11: return Integer.bitCount(heldSlots);
            case 12: return now.judged;
            case 13: return isAtRest() ? 1 : 0;
            case 14: return judge.worstSuffering(now);
            case 15: return unlisted();
            case 16: return judge.allDue(now);
            case 17: return Integer.bitCount(outlook.buyersOf(now));
            case 18: return spared();
            default: return NONE;
        }
    }

    private static int added(int[] row) {
        int sum = 0;
        for (int each : row) {
            sum += each;
        }
        return sum;
    }

    private boolean isAtRest() {
        orders.layAsListed(now);
        return orders.isResting();
    }

    private int unlisted() {
        int bits = 0;
        for (int docket = 0; docket < text.cases; docket++) {
            if (!now.isListed(docket)) {
                bits |= 1 << docket;
            }
        }
        return bits;
    }

    private int spared() {
        orders.layFirst(now);
        orders.seekBest(LEAST);
        return judge.allSuffering(now) - orders.bestMuch;
    }

    /** The bytes that wait to be read. */
    private static final class Tape {
        private final byte[] bytes = new byte[MOST_BYTES];
        private int length;

        private void putWord(int word) {
            for (int shift = 24; shift >= 0; shift -= 8) {
                if (length >= 0 && length < bytes.length) {
                    bytes[length] = (byte) (word >> shift);
                    length++;
                }
            }
        }

        private int byteAt(int index) {
            return index >= 0 && index < length && index < bytes.length ? bytes[index] & 255 : NONE;
        }
    }

    /** Parts the tape into tokens, as many as are told and the one that is too many. */
    private static final class Scanner {
        private final Tape tape;
        // Behind the token that is too many there is room for one more END.
        private final int[] kinds = new int[MOST_TOKENS + 2];
        private final int[] starts = new int[MOST_TOKENS + 2];
        private final long[] values = new long[MOST_TOKENS + 2];
        private int next;
        private long value;

        private Scanner(Tape tape) {
            this.tape = tape;
        }

        private void scanTape() {
            next = 0;
            for (int i = 0; i < kinds.length; i++) {
                passBlanks();
                starts[i] = next;
                value = 0;
                kinds[i] = i <= MOST_TOKENS ? scanToken() : END;
                values[i] = value;
            }
        }

        private void passBlanks() {
            while (next < tape.length && isBlank(tape.byteAt(next))) {
                next++;
            }
        }

        private int scanToken() {
            int sign = tape.byteAt(next);
            if (sign == NONE) {
                return END;
            }
            if (isLetter(sign)) {
                return scanLetters();
            }
            if (isDigit(sign)) {
                return scanDigits();
            }
            next++;
            int which = SIGNS_TEXT.indexOf((char) sign);
            return which < 0 ? NO_TOKEN : SEMICOLON + which;
        }

        // Eight letters fill 40 bits; a longer row is no name, so what wraps is never looked at.
        private int scanLetters() {
            int start = next;
            while (next < tape.length && isLetter(tape.byteAt(next))) {
                value = value * 32 + (tape.byteAt(next) - 'a' + 1);
                next++;
            }
            return next - start > MOST_LETTERS ? NO_TOKEN : kindOfWord(start);
        }

        private int scanDigits() {
            int start = next;
            while (next < tape.length && isDigit(tape.byteAt(next))) {
                value = value * 10 + (tape.byteAt(next) - '0');
                next++;
            }
            return next - start > MOST_DIGITS ? NO_TOKEN : INT;
        }

        private int kindOfWord(int start) {
            for (int word = WORD_CASE; word <= WORD_GONE; word++) {
                if (isWord(start, (word - WORD_CASE) * MOST_LETTERS)) {
                    return word;
                }
            }
            return NAME;
        }

        private boolean isWord(int start, int from) {
            for (int i = 0; i < MOST_LETTERS; i++) {
                int letter = start + i < next ? tape.byteAt(start + i) : ' ';
                if (from < 0 || from + i >= WORDS_TEXT.length() || WORDS_TEXT.charAt(from + i) != letter) {
                    return false;
                }
            }
            return true;
        }

        private static boolean isBlank(int sign) {
            return sign == 9 || sign == 10 || sign == 13 || sign == 32;
        }

        private static boolean isLetter(int sign) {
            return sign >= 'a' && sign <= 'z';
        }

        private static boolean isDigit(int sign) {
            return sign >= '0' && sign <= '9';
        }
    }

    /** Reads the tape into a draft of a text and tells the first fault. */
    private static final class Reader {
        private final Scanner scanner;
        private final Text draft = new Text();
        private int taken;
        private int fault;
        private int faultPlace;
        private int lateFault;
        private int latePlace;

        private Reader(Tape tape) {
            scanner = new Scanner(tape);
        }

        private int readTape() {
            scanner.scanTape();
            begin();
            for (int i = 0; i <= MOST_TOKENS && fault == 0 && !isNext(END); i++) {
                int law = kind() - WORD_DOOM;
                if (isNext(WORD_CASE)) {
                    readCase();
                } else if (isNext(WORD_BEFORE)) {
                    take();
                    draft.before = readNumber(MOST_DEED);
                } else if (isNext(WORD_SEED)) {
                    take();
                    draft.seed = readNumber(MOST_SEED);
                } else if (law >= DOOM && law <= ADJOURNS) {
                    take();
                    readLaw(law);
                } else {
                    fail(SYNTAX);
                }
                expect(SEMICOLON);
            }
            findFirstFault();
            return fault;
        }

        private void begin() {
            draft.clear();
            taken = 0;
            fault = 0;
            lateFault = 0;
        }

        private void findFirstFault() {
            if (taken > MOST_TOKENS) {
                // The one too many was taken, so the text could go on with it: what came behind it is no matter.
                fault = ROOM;
                faultPlace = scanner.starts[MOST_TOKENS];
            } else if (fault == 0) {
                fault = lateFault;
                faultPlace = latePlace;
            }
        }

        private int kind() {
            return taken >= 0 && taken < scanner.kinds.length ? scanner.kinds[taken] : END;
        }

        private long value() {
            return taken >= 0 && taken < scanner.values.length ? scanner.values[taken] : 0;
        }

        private void fail(int number) {
            if (fault == 0 && taken >= 0 && taken < scanner.starts.length) {
                fault = number;
                faultPlace = scanner.starts[taken];
            }
        }

        // TWICE and WRONG count only where the whole text has neither SYNTAX nor ROOM.
        private void failLate(int number) {
            if (lateFault == 0 && taken >= 0 && taken < scanner.starts.length) {
                lateFault = number;
                latePlace = scanner.starts[taken];
            }
        }

        private boolean isNext(int kind) {
            return fault == 0 && taken >= 0 && taken < scanner.kinds.length && scanner.kinds[taken] == kind;
        }

        private void take() {
            if (fault == 0 && taken <= MOST_TOKENS) {
                taken++;
            }
        }

        private void expect(int kind) {
            if (isNext(kind)) {
                take();
            } else {
                fail(SYNTAX);
            }
        }

        private void readCase() {
            if (draft.cases >= MOST_CASES) {
                fail(ROOM);
                return;
            }
            take();
            long name = value();
            if (isNext(NAME) && draft.isNamed(name)) {
                failLate(TWICE);
            }
            expect(NAME);
            int deed = readNumber(MOST_DEED);
            int purse = readNumber(MOST_DEED);
            draft.addCase(name, deed, purse);
        }

        private int readNumber(int most) {
            long number = value();
            if (isNext(INT) && number > most) {
                failLate(WRONG);
            }
            expect(INT);
            return (int) number;
        }

        private void readLaw(int law) {
            expect(EQUALS);
            draft.beginLaw(law);
            for (int ifs = 0; ifs < MOST_IFS && isNext(WORD_IF); ifs++) {
                take();
                readSum(0);
                expect(LESS);
                readSum(0);
                expect(WORD_THEN);
                int unless = draft.addStep(STEP_UNLESS, 0);
                readSum(0);
                expect(WORD_ELSE);
                draft.addStep(STEP_FINISH, 0);
                draft.leadHere(unless);
            }
            if (isNext(WORD_IF)) {
                fail(ROOM);
            }
            readSum(0);
            draft.addStep(STEP_FINISH, 0);
        }

        private void readSum(int brackets) {
            readProduct(brackets);
            for (int i = 0; i < MOST_TOKENS && (isNext(PLUS) || isNext(MINUS)); i++) {
                int step = isNext(PLUS) ? STEP_ADD : STEP_SUBTRACT;
                take();
                readProduct(brackets);
                draft.addStep(step, 0);
            }
        }

        private void readProduct(int brackets) {
            readUnit(brackets);
            for (int i = 0; i < MOST_TOKENS && (isNext(TIMES) || isNext(OVER)); i++) {
                int step = isNext(TIMES) ? STEP_MULTIPLY : STEP_DIVIDE;
                take();
                readUnit(brackets);
                draft.addStep(step, 0);
            }
        }

        private void readUnit(int brackets) {
            int which = kind() - WORD_DEED;
            if (isNext(INT)) {
                draft.addStep(STEP_INT, (int) value());
                take();
            } else if (which >= 0 && which < VARS) {
                draft.addStep(STEP_VAR, which);
                take();
            } else if (!isNext(OPEN)) {
                fail(SYNTAX);
            } else if (brackets >= MOST_BRACKETS) {
                fail(ROOM);
            } else {
                take();
                readSum(brackets + 1);
                expect(CLOSE);
            }
        }
    }

    /** What a text tells; all its laws are steps in one row, each from its start to a FINISH. */
    private static final class Text {
        // Each step stands for a token of its own, but for the twelve of the laws that were not told.
        private final int[] steps = new int[MOST_TOKENS + 20];
        private final int[] starts = new int[LAWS];
        private final int[] deeds = new int[MOST_CASES];
        private final int[] purses = new int[MOST_CASES];
        private final long[] names = new long[MOST_CASES];
        private int length;
        private int cases;
        private int before;
        private int seed;

        private Text() {
            clear();
        }

        private void clear() {
            length = 0;
            cases = 0;
            before = 0;
            seed = 0;
            beginLaw(DOOM);
            addStep(STEP_VAR, VAR_DEED);
            addStep(STEP_FINISH, 0);
            beginLaw(PLEA);
            addShareOfDeed(2);
            beginLaw(FEE);
            addShareOfDeed(4);
            beginLaw(ADJOURNS);
            addStep(STEP_INT, 0);
            addStep(STEP_FINISH, 0);
        }

        private void addShareOfDeed(int parts) {
            addStep(STEP_VAR, VAR_DEED);
            addStep(STEP_INT, parts);
            addStep(STEP_DIVIDE, 0);
            addStep(STEP_FINISH, 0);
        }

        private void copyFrom(Text other) {
            System.arraycopy(other.steps, 0, steps, 0, steps.length);
            System.arraycopy(other.starts, 0, starts, 0, LAWS);
            System.arraycopy(other.deeds, 0, deeds, 0, MOST_CASES);
            System.arraycopy(other.purses, 0, purses, 0, MOST_CASES);
            System.arraycopy(other.names, 0, names, 0, MOST_CASES);
            length = other.length;
            cases = other.cases;
            before = other.before;
            seed = other.seed;
        }

        private boolean has(int docket) {
            return docket >= 0 && docket < cases && docket < MOST_CASES;
        }

        private int deedOf(int docket) {
            return docket >= 0 && docket < cases && docket < MOST_CASES ? deeds[docket] : 0;
        }

        private boolean isNamed(long name) {
            for (int i = 0; i < cases && i < MOST_CASES; i++) {
                if (names[i] == name) {
                    return true;
                }
            }
            return false;
        }

        private void addCase(long name, int deed, int purse) {
            if (cases >= 0 && cases < MOST_CASES) {
                names[cases] = name;
                deeds[cases] = deed;
                purses[cases] = purse;
                cases++;
            }
        }

        private void beginLaw(int law) {
            if (law >= 0 && law < LAWS) {
                starts[law] = length;
            }
        }

        private int addStep(int step, int number) {
            int index = length;
            if (index >= 0 && index < steps.length) {
                steps[index] = 8 * number + step;
                length++;
            }
            return index;
        }

        private void leadHere(int index) {
            if (index >= 0 && index < length && index < steps.length) {
                steps[index] = 8 * length + STEP_UNLESS;
            }
        }
    }

    /** All that goes on: who is on the list, what each has and suffered, where the sessions are. */
    private static final class State {
        private final int[] list = new int[MOST_CASES];
        private final int[] purses = new int[MOST_CASES];
        private final int[] suffered = new int[MOST_CASES];
        private int listed;
        private int pleading;
        private int before;
        private int session;
        private int judged;

        private void begin(Text text) {
            for (int i = 0; i < MOST_CASES; i++) {
                list[i] = i;
                purses[i] = text.has(i) ? text.purses[i] : 0;
                suffered[i] = 0;
            }
            listed = text.cases;
            pleading = 0;
            before = text.before;
            session = 0;
            judged = 0;
        }

        private void copyFrom(State other) {
            System.arraycopy(other.list, 0, list, 0, MOST_CASES);
            System.arraycopy(other.purses, 0, purses, 0, MOST_CASES);
            System.arraycopy(other.suffered, 0, suffered, 0, MOST_CASES);
            listed = other.listed;
            pleading = other.pleading;
            before = other.before;
            session = other.session;
            judged = other.judged;
        }

        private int docketAt(int place) {
            return place >= 0 && place < listed && place < MOST_CASES ? list[place] : NONE;
        }

        private int placeOf(int docket) {
            for (int place = 0; place < listed && place < MOST_CASES; place++) {
                if (list[place] == docket) {
                    return place;
                }
            }
            return NONE;
        }

        private boolean isListed(int docket) {
            return placeOf(docket) != NONE;
        }

        private int aheadOf(int place) {
            return docketAt(place - 1);
        }

        private int behindOf(int docket) {
            int place = placeOf(docket);
            return place == NONE ? NONE : docketAt(place + 1);
        }

        private boolean isPleading(int docket) {
            return docket >= 0 && docket < MOST_CASES && (pleading >> docket & 1) == 1;
        }

        private void letPlead(int docket) {
            if (docket >= 0 && docket < MOST_CASES) {
                pleading |= 1 << docket;
            }
        }

        private void swap(int docket, int other) {
            int place = placeOf(docket);
            int otherPlace = placeOf(other);
            if (place != NONE && otherPlace != NONE) {
                list[place] = other;
                list[otherPlace] = docket;
            }
        }

        private void move(int docket, int place) {
            int from = placeOf(docket);
            if (from == NONE || docketAt(place) == NONE) {
                return;
            }
            int step = from < place ? 1 : -1;
            for (int i = 0; i < MOST_CASES && from != place; i++) {
                list[from] = docketAt(from + step);
                from += step;
            }
            list[place] = docket;
        }

        private void strike(int docket) {
            if (isListed(docket)) {
                move(docket, listed - 1);
                listed--;
                pleading &= ~(1 << docket);
            }
        }

        private void append(int docket) {
            if (listed >= 0 && listed < MOST_CASES) {
                list[listed] = docket;
                listed++;
            }
        }
    }

    /** What was before each of the last things done. */
    private static final class History {
        private final State[] states = new State[MOST_UNDONE];
        private int size;
        private int next;

        private History() {
            for (int i = 0; i < MOST_UNDONE; i++) {
                states[i] = new State();
            }
        }

        private void remember(State state) {
            states[Math.floorMod(next, MOST_UNDONE)].copyFrom(state);
            next = Math.floorMod(next + 1, MOST_UNDONE);
            size = Math.min(size + 1, MOST_UNDONE);
        }

        private boolean takeBack(State state) {
            if (size <= 0) {
                return false;
            }
            next = Math.floorMod(next - 1, MOST_UNDONE);
            state.copyFrom(states[next]);
            size--;
            return true;
        }
    }

    /** Gives sentence by the laws of a text. */
    private static final class Judge {
        private static final int LOT_WORD = 221;

        private final Text text;
        private final int[] vars = new int[VARS];
        // Six brackets, each behind a term and a factor, and both sides of an if need less than half of it.
        private final int[] stack = new int[40];
        private final int[] verdicts = new int[MOST_CASES];

        private Judge(Text text) {
            this.text = text;
        }

        /** Lays out what the laws look at for a case at a place, behind another one or (NONE) behind nobody. */
        private void seat(State state, int docket, int place, int ahead) {
            vars[VAR_OWN] = text.deedOf(docket);
            vars[VAR_PURSE] = docket >= 0 && docket < MOST_CASES ? state.purses[docket] : 0;
            vars[VAR_PLACE] = place;
            vars[VAR_SESSION] = state.session;
            vars[VAR_WHICH] = docket;
            vars[VAR_CASES] = state.listed;
            vars[VAR_PLED] = state.isPleading(ahead) ? 1 : 0;
            vars[VAR_GONE] = state.judged;
        }

        private void seatAsListed(State state, int docket) {
            int place = state.placeOf(docket);
            if (place == NONE) {
                seat(state, docket, state.listed, NONE);
            } else {
                seat(state, docket, place, state.aheadOf(place));
            }
        }

        /** What DOOM, PLEA or FEE comes to for the case that was seated last. */
        private int sentence(int law, int deed) {
            return Math.max(0, Math.min(MOST_SENTENCE, lawFor(law, deed)));
        }

        private int chanceOfAdjourning(State state, int docket) {
            seatAsListed(state, docket);
            return Math.max(0, Math.min(MOST_CHANCE, lawFor(ADJOURNS, text.deedOf(docket))));
        }

        private int lawFor(int law, int deed) {
            vars[VAR_DEED] = deed;
            int height = 0;
            int start = law >= 0 && law < LAWS ? text.starts[law] : 0;
            for (int i = Math.max(0, start); i < text.length && i < text.steps.length; i++) {
                int step = text.steps[i] & 7;
                int number = text.steps[i] >> 3;
                if (step == STEP_FINISH) {
                    return height > 0 ? stack[height - 1] : 0;
                }
                if (step == STEP_INT || step == STEP_VAR) {
                    if (height >= stack.length || number < 0 || step == STEP_VAR && number >= VARS) {
                        return 0;
                    }
                    stack[height] = step == STEP_INT ? number : vars[number];
                    height++;
                    continue;
                }
                if (height < 2) {
                    return 0;
                }
                height -= 2;
                int left = stack[height];
                int right = stack[height + 1];
                if (step == STEP_UNLESS) {
                    i = left < right ? i : Math.max(i, number - 1);
                } else if (step == STEP_DIVIDE && right == 0) {
                    return 0;
                } else {
                    stack[height] = reckon(step, left, right);
                    height++;
                }
            }
            return 0;
        }

        private static int reckon(int step, int left, int right) {
            switch (step) {
                case STEP_ADD: return left + right;
                case STEP_SUBTRACT: return left - right;
                case STEP_MULTIPLY: return left * right;
                default: return right == 0 ? 0 : left / right;
            }
        }

        private int kindOf(State state, int docket, int place, int ahead) {
            if (place == 0) {
                return FIRST;
            }
            int deedAhead = text.deedOf(ahead);
            if (deedAhead == 0) {
                return INNOCENT;
            }
            if (deedAhead < text.deedOf(docket)) {
                return WEDGED;
            }
            return place == state.listed - 1 ? LAST : MIDST;
        }

        private int suffering(State state, int docket, int place, int ahead) {
            int kind = kindOf(state, docket, place, ahead);
            if (kind == INNOCENT) {
                return 0;
            }
            seat(state, docket, place, ahead);
            if (kind == FIRST) {
                return sentence(DOOM, state.before);
            }
            int much = sentence(DOOM, text.deedOf(ahead));
            if (state.isPleading(ahead)) {
                much = Math.max(0, much - sentence(PLEA, text.deedOf(ahead)));
            }
            if (kind == WEDGED) {
                return much / 2;
            }
            return kind == LAST ? much + text.deedOf(docket) / 4 : much;
        }

        private int sufferingAt(State state, int place) {
            return suffering(state, state.docketAt(place), place, state.aheadOf(place));
        }

        private int due(State state, int docket, int place, int ahead) {
            seat(state, docket, place, ahead);
            return sentence(DOOM, text.deedOf(docket));
        }

        private int dueAsListed(State state, int docket) {
            seatAsListed(state, docket);
            return sentence(DOOM, text.deedOf(docket));
        }

        private int allSuffering(State state) {
            int sum = 0;
            for (int place = 0; place < state.listed; place++) {
                sum += sufferingAt(state, place);
            }
            return sum;
        }

        private int worstSuffering(State state) {
            int worst = 0;
            for (int place = 0; place < state.listed; place++) {
                worst = Math.max(worst, sufferingAt(state, place));
            }
            return worst;
        }

        private int allDue(State state) {
            int sum = 0;
            for (int place = 0; place < state.listed; place++) {
                sum += dueAsListed(state, state.docketAt(place));
            }
            return sum;
        }

        private void goThrough(State state, int sessions, int seed) {
            for (int i = 0; i < sessions; i++) {
                sitOnce(state, seed);
            }
        }

        // Every verdict falls by how it was as the session began, so all are found before any case leaves.
        private void sitOnce(State state, int seed) {
            int adjourned = 0;
            for (int place = 0; place < state.listed && place < MOST_CASES; place++) {
                int docket = state.docketAt(place);
                verdicts[place] = suffering(state, docket, place, state.aheadOf(place));
                if (lot(seed, 8 * state.session + docket) < chanceOfAdjourning(state, docket)) {
                    adjourned |= 1 << place;
                }
            }
            int listed = state.listed;
            state.listed = 0;
            for (int place = 0; place < listed && place < MOST_CASES; place++) {
                int docket = state.list[place];
                if ((adjourned >> place & 1) == 1) {
                    state.append(docket);
                } else if (text.has(docket)) {
                    state.suffered[docket] += verdicts[place];
                    state.before = text.deeds[docket];
                    state.judged++;
                }
            }
            state.pleading = 0;
            state.session++;
        }

        private static int lot(int seed, int which) {
            int mixed = mix(mix(seed, LOT_WORD), which);
            return (mixed >>> 1) % 100;
        }

        private static int mix(int sofar, int word) {
            int mixed = (sofar ^ word) * 1103515245 + 12345;
            return mixed ^ mixed >>> 15;
        }
    }

    /** Goes through all orders of the list, from tables of what each would suffer where, behind whom. */
    private static final class Orders {
        private final Judge judge;
        private final int[] sufferings = new int[MOST_CASES * 64];
        private final int[] dues = new int[MOST_CASES * 64];
        private final int[] row = new int[MOST_CASES];
        private final int[] bestRow = new int[MOST_CASES];
        private int size;
        private int bestMuch;
        private int bestWays;

        private Orders(Judge judge) {
            this.judge = judge;
        }

        private static int spot(int place, int docket, int ahead) {
            return (place & 7) % MOST_CASES * 64 + (docket & 7) * 8 + (ahead + 1 & 7);
        }

        /** Makes the tables; the row is the list. */
        private void layAsListed(State state) {
            size = Math.max(0, Math.min(MOST_CASES, state.listed));
            for (int place = 0; place < size; place++) {
                row[place] = state.docketAt(place);
            }
            layTables(state);
        }

        /** Makes the tables; the row is the first order. */
        private void layFirst(State state) {
            size = 0;
            for (int docket = 0; docket < MOST_CASES; docket++) {
                if (state.isListed(docket)) {
                    row[size] = docket;
                    size++;
                }
            }
            layTables(state);
        }

        private void layTables(State state) {
            for (int place = 0; place < size; place++) {
                int aheads = place == 0 ? 1 : size;
                for (int i = 0; i < size; i++) {
                    for (int j = 0; j < aheads; j++) {
                        int ahead = place == 0 ? NONE : row[j];
                        if (ahead != row[i]) {
                            int spot = spot(place, row[i], ahead);
                            sufferings[spot] = judge.suffering(state, row[i], place, ahead);
                            dues[spot] = judge.due(state, row[i], place, ahead);
                        }
                    }
                }
            }
        }

        private int spotAt(int place) {
            return spot(place, row[place], place > 0 ? row[place - 1] : NONE);
        }

        private int sufferingAt(int place) {
            return place >= 0 && place < size ? sufferings[spotAt(place)] : 0;
        }

        private int dueAt(int place) {
            return place >= 0 && place < size ? dues[spotAt(place)] : 0;
        }

        /** Goes on to the next order, by the case at place 0, then at the next; false behind the last one. */
        private boolean stepOn() {
            int left = size - 2;
            while (left >= 0 && row[left] > row[left + 1]) {
                left--;
            }
            if (left < 0) {
                return false;
            }
            int right = size - 1;
            while (right > left && row[right] < row[left]) {
                right--;
            }
            exchange(left, right);
            for (int low = left + 1, high = size - 1; low < high; low++, high--) {
                exchange(low, high);
            }
            return true;
        }

        private void exchange(int place, int other) {
            if (place >= 0 && place < size && other >= 0 && other < size) {
                int docket = row[place];
                row[place] = row[other];
                row[other] = docket;
            }
        }

        private void seekBest(int goal) {
            bestWays = 0;
            boolean more = true;
            for (int i = 0; i < MOST_ORDERS && more; i++) {
                int much = muchFor(goal);
                boolean better = goal == MOST ? much > bestMuch : much < bestMuch;
                if (bestWays == 0 || better) {
                    bestMuch = much;
                    bestWays = 1;
                    System.arraycopy(row, 0, bestRow, 0, MOST_CASES);
                } else if (much == bestMuch) {
                    bestWays++;
                }
                more = stepOn();
            }
        }

        private int muchFor(int goal) {
            int sum = 0;
            for (int place = 0; place < size; place++) {
                int much = sufferingAt(place);
                if (goal == MILDEST) {
                    sum = Math.max(sum, much);
                } else {
                    sum += goal == NEAREST ? Math.abs(much - dueAt(place)) : much;
                }
            }
            return sum;
        }

        private int bestAt(int place) {
            return place >= 0 && place < size ? bestRow[place] : NONE;
        }

        private boolean isTrade(int place, int other) {
            int much = sufferingAt(place);
            int otherMuch = sufferingAt(other);
            exchange(place, other);
            boolean trade = sufferingAt(other) < much && sufferingAt(place) < otherMuch;
            exchange(place, other);
            return trade;
        }

        private int placeInRow(int docket) {
            for (int place = 0; place < size; place++) {
                if (row[place] == docket) {
                    return place;
                }
            }
            return NONE;
        }

        private int tradersOf(int docket) {
            int place = placeInRow(docket);
            int bits = 0;
            for (int other = 0; other < size && place != NONE; other++) {
                if (other != place && isTrade(place, other)) {
                    bits |= 1 << row[other];
                }
            }
            return bits;
        }

        private boolean isResting() {
            for (int place = 0; place < size; place++) {
                for (int other = place + 1; other < size; other++) {
                    if (isTrade(place, other)) {
                        return false;
                    }
                }
            }
            return true;
        }

        private int countResting() {
            int resting = 0;
            boolean more = true;
            for (int i = 0; i < MOST_ORDERS && more; i++) {
                if (isResting()) {
                    resting++;
                }
                more = stepOn();
            }
            return resting;
        }

        private int countTrades() {
            for (int trades = 0; trades <= MOST_TRADES; trades++) {
                if (!tradeLowest()) {
                    return trades;
                }
            }
            return ABSENT;
        }

        private boolean tradeLowest() {
            for (int docket = 0; docket < MOST_CASES; docket++) {
                int others = tradersOf(docket);
                if (others != 0) {
                    exchange(placeInRow(docket), placeInRow(Integer.numberOfTrailingZeros(others)));
                    return true;
                }
            }
            return false;
        }

        private int rowNumber() {
            int number = 0;
            for (int place = 0; place < size; place++) {
                number = 8 * number + row[place];
            }
            return number;
        }
    }

    /** What would be, were one thing of the list otherwise or sessions gone by. */
    private static final class Outlook {
        private final Text text;
        private final Judge judge;
        private final State trial = new State();
        private int who;
        private int much;

        private Outlook(Text text, Judge judge) {
            this.text = text;
            this.judge = judge;
        }

        private int answer(int what) {
            return what == 0 || who == ABSENT ? who : much;
        }

        private int gainOfSwap(State state, int docket, int other) {
            trial.copyFrom(state);
            trial.swap(docket, other);
            return judge.allSuffering(state) - judge.allSuffering(trial);
        }

        private void seekShunned(State state) {
            who = ABSENT;
            for (int docket = 0; docket < MOST_CASES; docket++) {
                if (state.isListed(docket)) {
                    int sum = doomsBehind(state, docket);
                    if (who == ABSENT || sum > much) {
                        who = docket;
                        much = sum;
                    }
                }
            }
        }

        private int doomsBehind(State state, int docket) {
            int sum = 0;
            for (int place = 0; place < state.listed; place++) {
                int other = state.docketAt(place);
                if (other != docket) {
                    judge.seat(state, other, place, state.aheadOf(place));
                    sum += judge.sentence(DOOM, text.deedOf(docket));
                }
            }
            return sum;
        }

        private int buyersOf(State state) {
            int bits = 0;
            for (int place = 1; place < state.listed; place++) {
                if (!state.isPleading(state.aheadOf(place)) && isBuyer(state, place)) {
                    bits |= 1 << state.docketAt(place);
                }
            }
            return bits;
        }

        private boolean isBuyer(State state, int place) {
            int docket = state.docketAt(place);
            int ahead = state.aheadOf(place);
            judge.seat(state, docket, place, ahead);
            int fee = judge.sentence(FEE, text.deedOf(ahead));
            trial.copyFrom(state);
            trial.letPlead(ahead);
            int less = judge.sufferingAt(state, place) - judge.sufferingAt(trial, place);
            return less > fee && text.has(docket) && state.purses[docket] >= fee;
        }

        private void seekLighter(State state) {
            who = ABSENT;
            for (int docket = 0; docket < MOST_CASES; docket++) {
                if (state.isListed(docket)) {
                    trial.copyFrom(state);
                    trial.strike(docket);
                    int sum = judge.allSuffering(trial);
                    if (who == ABSENT || sum < much) {
                        who = docket;
                        much = sum;
                    }
                }
            }
        }

        private void seekFurthest(State state, int docket) {
            who = ABSENT;
            for (int place = 0; place < state.listed; place++) {
                trial.copyFrom(state);
                trial.move(docket, place);
                int there = judge.sufferingAt(trial, place);
                if (who == ABSENT || there < much) {
                    who = place;
                    much = there;
                }
            }
        }

        private State inSessions(State state, int sessions) {
            trial.copyFrom(state);
            judge.goThrough(trial, sessions, text.seed);
            return trial;
        }

        private int seedsThatKeep(State state, int docket, int sessions, int seeds) {
            int kept = 0;
            for (int i = 0; i < seeds; i++) {
                trial.copyFrom(state);
                judge.goThrough(trial, sessions, text.seed + i);
                if (trial.isListed(docket)) {
                    kept++;
                }
            }
            return kept;
        }
    }

    /** What was told of an order unknown, and the orders by which it is so. */
    private static final class Told {
        private final int[] places = new int[MOST_TOLD];
        private final int[] values = new int[MOST_TOLD];
        private final boolean[] sos = new boolean[MOST_TOLD];
        private final int[] reaching = new int[MOST_CASES];
        private int size;
        private int fitting;
        private int firstFitting;

        private int add(int place, int value, boolean so) {
            if (size < 0 || size >= MOST_TOLD) {
                return NONE;
            }
            places[size] = place;
            values[size] = value;
            sos[size] = so;
            size++;
            return size - 1;
        }

        /** Counts the orders that fit the first ones told, and at each place those that reach a value there. */
        private void seekFitting(Orders orders, int known, int value) {
            fitting = 0;
            firstFitting = 0;
            for (int place = 0; place < MOST_CASES; place++) {
                reaching[place] = 0;
            }
            boolean more = true;
            for (int i = 0; i < MOST_ORDERS && more; i++) {
                if (isFitting(orders, known)) {
                    firstFitting = fitting == 0 ? orders.rowNumber() : firstFitting;
                    fitting++;
                    addReaching(orders, value);
                }
                more = orders.stepOn();
            }
        }

        private boolean isFitting(Orders orders, int known) {
            for (int i = 0; i < known && i < size && i < MOST_TOLD; i++) {
                boolean there = places[i] < orders.size;
                if (!there || orders.sufferingAt(places[i]) >= values[i] != sos[i]) {
                    return false;
                }
            }
            return true;
        }

        private void addReaching(Orders orders, int value) {
            for (int place = 0; place < orders.size && place < MOST_CASES; place++) {
                if (orders.sufferingAt(place) >= value) {
                    reaching[place]++;
                }
            }
        }

        private int placeToAsk(int listed) {
            int where = ABSENT;
            int fewest = 0;
            for (int place = 0; place < listed && place < MOST_CASES; place++) {
                int worst = Math.max(reaching[place], fitting - reaching[place]);
                if (where == ABSENT || worst < fewest) {
                    where = place;
                    fewest = worst;
                }
            }
            return where;
        }
    }
}
