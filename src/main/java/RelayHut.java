import java.util.Arrays;

/** A hut of relays, its drawings, flaws, tests, stages, logs and rounds by hand. */
public final class RelayHut {
    public static final int NONE = -1;

    /** What the document answers with -2: a race, or nothing to tell. */
    private static final int RACE = -2;
    private static final int NOTHING = -2;
    private static final int TOO_MANY = -3;

    private static final int MAX_TEXT = 2000;
    private static final int MAX_TOKENS = 400;
    private static final int MAX_DRAWINGS = 4;
    private static final int MAX_INPUTS = 5;
    private static final int MAX_RELAYS = 6;
    private static final int MAX_LAMPS = 5;
    private static final int MAX_NEVERS = 6;
    private static final int MAX_CONTACTS = 40;
    private static final int MAX_FLAWS = 3 * MAX_CONTACTS + 2 * MAX_RELAYS;
    private static final int MAX_LOGS = 40;
    private static final int MAX_LOG_ACTS = 6;
    private static final int MAX_AGE = 9;
    private static final int MAX_UNLIKE = 7;

    /** Circuits are numbered as the sets of stages have their bits: relays, then lamps from 6 on. */
    private static final int CIRCUITS = MAX_RELAYS + MAX_LAMPS;
    private static final int RELAY_BITS = 63;
    private static final int LAMP_BITS = 31;
    private static final int INPUT_BITS = 31;

    /** A word is the state of inputs and relays: the relays in its low 6 bits, the inputs above. */
    private static final int WORDS = 2048;
    private static final int FIRST_STUCK = 200;

    private final byte[] tape = new byte[MAX_TEXT];
    private int tapeLength;
    private int faultPlace = NONE;

    private final Drawing blank = new Drawing(0);
    private final Drawing[] drawings = new Drawing[MAX_DRAWINGS];
    private int drawingCount;
    private int atHand = NONE;

    private final Reading reading = new Reading();
    private final Hut hut = new Hut(blank);
    private final Survey survey = new Survey(hut);
    private final Trials trials = new Trials(new Hut(blank), hut);
    private final Planner planner = new Planner(hut, survey);
    private final Logbook logbook = new Logbook(hut);
    private final Handwork handwork = new Handwork(blank);

    public RelayHut() {
    }

    // ==== the tape and the drawings ====

    public int feed(int a, int b, int c, int d, int e) {
        if (tapeLength + 20 > MAX_TEXT) {
            return NONE;
        }
        putBytes(a);
        putBytes(b);
        putBytes(c);
        putBytes(d);
        putBytes(e);
        return tapeLength;
    }

    private void putBytes(int four) {
        for (int shift = 24; shift >= 0 && tapeLength < MAX_TEXT; shift -= 8) {
            tape[tapeLength] = (byte) (four >> shift);
            tapeLength++;
        }
    }

    public int back(int n) {
        if (n < 0 || n > tapeLength) {
            return NONE;
        }
        tapeLength -= n;
        return tapeLength;
    }

    public int read() {
        if (drawingCount >= MAX_DRAWINGS) {
            return NOTHING;
        }
        int fault = reading.judge(tape, tapeLength);
        tapeLength = 0;
        faultPlace = fault == 0 ? NONE : reading.faultPlace();
        if (fault == 0) {
            drawings[drawingCount] = reading.draw();
            drawingCount++;
            takeToHand(drawingCount - 1);
        }
        return fault;
    }

    public int place() {
        return faultPlace;
    }

    public boolean use(int drawing) {
        if (!isDrawing(drawing)) {
            return false;
        }
        if (drawing != atHand) {
            takeToHand(drawing);
        }
        return true;
    }

    private void takeToHand(int drawing) {
        atHand = drawing;
        handwork.takeDrawing(current());
    }

    private boolean isDrawing(int drawing) {
        return drawing >= 0 && drawing < drawingCount;
    }

    private Drawing drawingOf(int drawing) {
        return isDrawing(drawing) ? drawings[drawing] : blank;
    }

    private Drawing current() {
        return drawingOf(atHand);
    }

    public int contact(int k, int what) {
        Drawing drawing = current();
        if (k < 0 || k >= drawing.contacts || k >= MAX_CONTACTS) {
            return NONE;
        }
        switch (what) {
            case 0:
                int owner = drawing.owner[k];
                return owner < MAX_RELAYS ? owner : 10 + owner - MAX_RELAYS;
            case 1:
                int variable = drawing.wiring.variable[k];
                return variable < MAX_RELAYS ? 10 + variable : variable - MAX_RELAYS;
            case 2:
                return drawing.wiring.bang[k];
            default:
                return NONE;
        }
    }

    public int flaw(int i) {
        return current().flawAt(i);
    }

    // ==== one hut with its flaws ====

    /** Makes the hut with these flaws ready; false: there are no such flaws. */
    private boolean takeHut(int f, int g) {
        Drawing drawing = current();
        boolean known = atHand != NONE && drawing.isFlawOrNone(f) && drawing.isFlawOrNone(g);
        if (known) {
            hut.prepare(drawing, f, g);
        }
        return known;
    }

    private boolean isState(int inputs, int relays) {
        Drawing drawing = current();
        return inputs >= 0 && inputs < 1 << drawing.inputs && relays >= 0 && relays < 1 << drawing.relays;
    }

    public int settles(int f, int g, int inputs, int relays) {
        if (!takeHut(f, g) || !isState(inputs, relays)) {
            return NONE;
        }
        return hut.settle(inputs, relays);
    }

    public int shows(int f, int g, int inputs, int relays) {
        if (!takeHut(f, g) || !isState(inputs, relays)) {
            return NONE;
        }
        return hut.lampsAt(inputs, relays);
    }

    public int start(int f, int g) {
        return takeHut(f, g) ? hut.settle(0, 0) : NONE;
    }

    public int reached(int f, int g) {
        if (!takeHut(f, g)) {
            return NONE;
        }
        survey.explore(false, false);
        return survey.reachedCount();
    }

    public int races(int f, int g) {
        if (!takeHut(f, g)) {
            return NONE;
        }
        survey.explore(false, false);
        return survey.raceCount();
    }

    public int bad(int f, int g) {
        if (!takeHut(f, g)) {
            return NONE;
        }
        survey.explore(true, false);
        return survey.actsToWrong();
    }

    public int badAct(int f, int g, int i) {
        if (!takeHut(f, g)) {
            return NONE;
        }
        survey.explore(true, false);
        return survey.actToWrong(i);
    }

    // ==== flaws, and tests that see them ====

    public int singles() {
        return survey.countBad(current());
    }

    public int pairs(int f) {
        int index = current().flawIndex(f);
        if (index < 0) {
            return NONE;
        }
        survey.findPartners(current(), index);
        return current().findings.countPartners(index);
    }

    public int pair(int f, int i) {
        int index = current().flawIndex(f);
        if (index < 0) {
            return NONE;
        }
        survey.findPartners(current(), index);
        return current().flawAt(current().findings.partnerAt(index, i));
    }

    public int least(int f) {
        int index = current().flawIndex(f);
        if (index < 0) {
            return NONE;
        }
        long test = trials.leastTest(current(), index);
        return test == Trials.HIDDEN ? NOTHING : Trials.actsOf(test);
    }

    public int leastAct(int f, int i) {
        int index = current().flawIndex(f);
        return index < 0 ? NONE : Trials.actAt(trials.leastTest(current(), index), i);
    }

    public int hidden() {
        return trials.countHidden(current());
    }

    public int suite() {
        trials.makeSuite(current());
        return current().findings.suiteCount;
    }

    public int suiteAct(int k, int i) {
        trials.makeSuite(current());
        return Trials.actAt(current().findings.suiteTest(k), i);
    }

    public int suiteActs() {
        trials.makeSuite(current());
        int acts = 0;
        for (int k = 0; k < current().findings.suiteCount; k++) {
            acts += Trials.actsOf(current().findings.suiteTest(k));
        }
        return acts;
    }

    // ==== stages from drawing to drawing ====

    public int unlike(int a, int b) {
        if (!isDrawing(a) || !isDrawing(b)) {
            return NONE;
        }
        return drawingOf(a).unlikeBits(drawingOf(b));
    }

    public int safe(int a, int b, int set) {
        int unlike = unlike(a, b);
        if (unlike < 0) {
            return unlike;
        }
        if ((set & ~unlike) != 0) {
            return NONE;
        }
        hut.prepareMixed(drawingOf(a), drawingOf(b), set, NONE, NONE);
        survey.explore(true, true);
        return survey.isSafe() ? 1 : 0;
    }

    public int plan(int a, int b, int k) {
        int unlike = unlike(a, b);
        if (unlike == NONE || k < 1 || k > MAX_UNLIKE) {
            return NONE;
        }
        if (unlike < 0) {
            return NOTHING;
        }
        if (Integer.bitCount(unlike) > MAX_UNLIKE) {
            return TOO_MANY;
        }
        planner.findPlan(drawingOf(a), drawingOf(b), unlike, k);
        return planner.stageCount();
    }

    public int stage(int a, int b, int k, int i) {
        int stages = plan(a, b, k);
        return i < 0 || i >= stages ? NONE : planner.setBehind(i);
    }

    // ==== logs ====

    public int log(int n, int acts, int lamps) {
        return atHand == NONE ? NONE : logbook.write(current(), n, acts, lamps);
    }

    public int annul(int log) {
        return logbook.writeVoid(log);
    }

    public int fits(int f, int n) {
        Drawing drawing = current();
        if (atHand == NONE || !drawing.isFlawOrNone(f) || !logbook.isKnown(n)) {
            return NOTHING;
        }
        return logbook.isFitting(drawing, f, n) ? 1 : 0;
    }

    public int suspects(int n) {
        if (atHand == NONE || !logbook.isKnown(n)) {
            return NONE;
        }
        return logbook.countFitting(current(), n);
    }

    public int next(int n) {
        if (atHand == NONE || !logbook.isKnown(n)) {
            return NONE;
        }
        return logbook.bestRow(current(), n);
    }

    // ==== rounds by hand ====

    public boolean set(int input, boolean on) {
        return handwork.setInput(input, on);
    }

    public boolean strap(int contact, boolean on) {
        return handwork.layStrap(contact, on);
    }

    public boolean age(int relay, int v) {
        return handwork.setAge(relay, v);
    }

    public int round() {
        return atHand == NONE ? NONE : handwork.goRound();
    }

    public int clash() {
        return handwork.hasClashed() ? 1 : 0;
    }

    public int hand(int what) {
        return atHand == NONE ? NONE : handwork.tell(what);
    }

    public int count(int what) {
        Drawing drawing = current();
        switch (what) {
            case 0:
                return drawingCount;
            case 1:
                return atHand;
            case 8:
                return logbook.entryCount();
            case 9:
                return tapeLength;
            default:
                return atHand == NONE ? NONE : drawing.countOf(what);
        }
    }

    /** The state of inputs and relays as one index into the tables of 2,048. */
    private static int wordOf(int inputs, int relays) {
        return (inputs & INPUT_BITS) << MAX_RELAYS | relays & RELAY_BITS;
    }

    // ==== texts ====

    /** What tokens there are; the words stand from KEY on in the order of Tokens.words. */
    private static final int END = 0;
    private static final int NO_TOKEN = 1;
    private static final int NAME = 2;
    private static final int INT = 3;
    private static final int KEY = 4;
    private static final int TRACK = 5;
    private static final int RELAY = 6;
    private static final int SLOW = 7;
    private static final int LAMP = 8;
    private static final int GREEN = 9;
    private static final int NEVER = 10;
    private static final int IF = 11;
    private static final int SEMICOLON = 12;
    private static final int EQUALS = 13;
    private static final int NOT = 14;
    private static final int AND = 15;
    private static final int OR = 16;
    private static final int OPEN = 17;
    private static final int CLOSE = 18;
    private static final String SIGNS = ";=!&|()";

    /** Cuts a text into tokens, one after the other. */
    private static final class Tokens {
        private static final int MAX_NAME = 8;
        private static final int MAX_DIGITS = 4;

        private final long[] words = new long[] {
            pack("key"), pack("track"), pack("relay"), pack("slow"),
            pack("lamp"), pack("green"), pack("never"), pack("if")
        };
        private byte[] text = new byte[0];
        private int length;
        private int at;

        /** The token taken last: its kind, its first byte, and its packed name or its number. */
        int kind;
        int place;
        long value;

        void takeText(byte[] bytes, int count) {
            text = bytes;
            length = Math.min(count, bytes.length);
            at = 0;
        }

        /** A name as one number, so that names are compared as numbers are. */
        private static long pack(String word) {
            long packed = 0;
            for (int i = 0; i < word.length(); i++) {
                packed = packLetter(packed, word.charAt(i));
            }
            return packed;
        }

        private static long packLetter(long packed, int letter) {
            return packed * 27 + (letter - 'a' + 1);
        }

        void takeToken() {
            while (at < length && isBlank(text[at])) {
                at++;
            }
            place = at;
            value = 0;
            if (at >= length) {
                kind = END;
            } else if (isLetter(text[at])) {
                takeWord();
            } else if (isDigit(text[at])) {
                takeNumber();
            } else {
                int sign = SIGNS.indexOf((char) (text[at] & 255));
                kind = sign < 0 ? NO_TOKEN : SEMICOLON + sign;
                at++;
            }
        }

        private void takeWord() {
            while (at < length && isLetter(text[at])) {
                value = packLetter(value, text[at]);
                at++;
            }
            kind = at - place > MAX_NAME ? NO_TOKEN : kindOfWord();
        }

        private int kindOfWord() {
            for (int w = 0; w < words.length; w++) {
                if (words[w] == value) {
                    return KEY + w;
                }
            }
            return NAME;
        }

        private void takeNumber() {
            while (at < length && isDigit(text[at])) {
                value = value * 10 + (text[at] - '0');
                at++;
            }
            kind = at - place > MAX_DIGITS ? NO_TOKEN : INT;
        }

        private static boolean isBlank(int c) {
            return c == 9 || c == 10 || c == 13 || c == 32;
        }

        private static boolean isLetter(int c) {
            return c >= 'a' && c <= 'z';
        }

        private static boolean isDigit(int c) {
            return c >= '0' && c <= '9';
        }
    }

    /** Where a text stands: what the next token may be. A token's role is the state ahead of it. */
    private static final int NOWHERE = -1;
    private static final int TELL = 0;
    private static final int INPUT_NAME = 1;
    private static final int INPUT_END = 2;
    private static final int RELAY_NAME = 3;
    private static final int RELAY_SLOW = 4;
    private static final int SLOW_INT = 5;
    private static final int EQUALS_SIGN = 6;
    private static final int LAMP_NAME = 7;
    private static final int NEVER_NAME = 8;
    private static final int NEVER_IF = 9;
    private static final int UNIT = 10;
    private static final int NOT_NAME = 11;
    private static final int UNIT_END = 12;

    /** Signs in a row of circuit codes stand from here on by their kind; names below, by their bit in a word. */
    private static final int CODE_SIGN = 100;

    /** Judges a text, keeps its tokens, and makes its drawing. */
    private static final class Reading {
        private static final int SYNTAX = 1;
        private static final int ROOM = 2;
        private static final int TWICE = 3;
        private static final int NAMELESS = 4;
        private static final int WRONG_SLOW = 5;
        private static final int MAX_DEPTH = 4;
        private static final int MAX_SLOW = 9;
        private static final int MAX_TOLD = MAX_INPUTS + MAX_RELAYS + MAX_LAMPS;

        private final Tokens tokens = new Tokens();
        private final int[] kinds = new int[MAX_TOKENS];
        private final int[] roles = new int[MAX_TOKENS];
        private final int[] places = new int[MAX_TOKENS];
        private final long[] values = new long[MAX_TOKENS];
        private final int[] codes = new int[MAX_TOKENS];
        private int tokenCount;
        private int state;
        private int depth;
        private int place;

        /** What is told, in the order of the text: its name, the kind of its first token, its number. */
        private final long[] names = new long[MAX_TOLD];
        private final int[] sorts = new int[MAX_TOLD];
        private final int[] numbers = new int[MAX_TOLD];
        private int told;

        private int inputs;
        private int relays;
        private int lamps;
        private int nevers;
        private int contacts;
        /** The kind of the first token of what is being told. */
        private int telling;

        int faultPlace() {
            return place;
        }

        /** The number of the text's first fault; 0: it has none. */
        int judge(byte[] text, int length) {
            forgetText();
            tokens.takeText(text, length);
            for (int i = 0; i <= MAX_TEXT; i++) {
                tokens.takeToken();
                place = tokens.place;
                if (tokens.kind == END) {
                    return state == TELL ? judgeNames() : SYNTAX;
                }
                int following = stateBehind(tokens.kind);
                if (following == NOWHERE) {
                    return SYNTAX;
                }
                if (tokenCount >= MAX_TOKENS || isOutOfRoom(tokens.kind)) {
                    return ROOM;
                }
                keepToken(tokens.kind);
                state = following;
            }
            return SYNTAX;
        }

        private void forgetText() {
            tokenCount = 0;
            state = TELL;
            depth = 0;
            told = 0;
            inputs = 0;
            relays = 0;
            lamps = 0;
            nevers = 0;
            contacts = 0;
            telling = END;
        }

        /** The state behind a token of this kind, NOWHERE if no text goes on with it. */
        private int stateBehind(int kind) {
            switch (state) {
                case TELL:
                    return stateBehindTell(kind);
                case INPUT_NAME:
                    return kind == NAME ? INPUT_END : NOWHERE;
                case INPUT_END:
                    return kind == SEMICOLON ? TELL : NOWHERE;
                case RELAY_NAME:
                    return kind == NAME ? RELAY_SLOW : NOWHERE;
                case RELAY_SLOW:
                    return kind == SLOW ? SLOW_INT : kind == EQUALS ? UNIT : NOWHERE;
                case SLOW_INT:
                    return kind == INT ? EQUALS_SIGN : NOWHERE;
                case EQUALS_SIGN:
                    return kind == EQUALS ? UNIT : NOWHERE;
                case LAMP_NAME:
                    return kind == NAME ? EQUALS_SIGN : NOWHERE;
                case NEVER_NAME:
                    return kind == NAME ? NEVER_IF : NOWHERE;
                case NEVER_IF:
                    return kind == IF ? UNIT : NOWHERE;
                case UNIT:
                    return kind == NAME ? UNIT_END : kind == NOT ? NOT_NAME : kind == OPEN ? UNIT : NOWHERE;
                case NOT_NAME:
                    return kind == NAME ? UNIT_END : NOWHERE;
                default:
                    return stateBehindUnit(kind);
            }
        }

        private static int stateBehindTell(int kind) {
            switch (kind) {
                case KEY:
                case TRACK:
                    return INPUT_NAME;
                case RELAY:
                    return RELAY_NAME;
                case LAMP:
                case GREEN:
                    return LAMP_NAME;
                case NEVER:
                    return NEVER_NAME;
                default:
                    return NOWHERE;
            }
        }

        private int stateBehindUnit(int kind) {
            if (kind == AND || kind == OR) {
                return UNIT;
            }
            if (kind == CLOSE && depth > 0) {
                return UNIT_END;
            }
            return kind == SEMICOLON && depth == 0 ? TELL : NOWHERE;
        }

        private boolean isOutOfRoom(int kind) {
            switch (kind) {
                case KEY:
                case TRACK:
                    return inputs >= MAX_INPUTS;
                case RELAY:
                    return relays >= MAX_RELAYS;
                case LAMP:
                case GREEN:
                    return lamps >= MAX_LAMPS;
                case NEVER:
                    return nevers >= MAX_NEVERS;
                case NAME:
                    return isContact(state) && contacts >= MAX_CONTACTS;
                case OPEN:
                    return depth >= MAX_DEPTH;
                default:
                    return false;
            }
        }

        private static boolean isCircuitName(int role) {
            return role == UNIT || role == NOT_NAME;
        }

        private boolean isContact(int role) {
            return isCircuitName(role) && telling != NEVER;
        }

        private void keepToken(int kind) {
            kinds[tokenCount] = kind;
            roles[tokenCount] = state;
            places[tokenCount] = tokens.place;
            values[tokenCount] = tokens.value;
            codes[tokenCount] = CODE_SIGN + kind;
            tokenCount++;
            if (state == TELL) {
                telling = kind;
                if (kind == NEVER) {
                    nevers++;
                }
            } else if (kind == NAME) {
                keepName();
            } else if (kind == OPEN) {
                depth++;
            } else if (kind == CLOSE) {
                depth--;
            }
        }

        private void keepName() {
            if (state == INPUT_NAME) {
                keepTold(inputs);
                inputs++;
            } else if (state == RELAY_NAME) {
                keepTold(relays);
                relays++;
            } else if (state == LAMP_NAME) {
                keepTold(lamps);
                lamps++;
            } else if (isContact(state)) {
                contacts++;
            }
        }

        private void keepTold(int number) {
            if (told < MAX_TOLD) {
                names[told] = tokens.value;
                sorts[told] = telling;
                numbers[told] = number;
                told++;
            }
        }

        /** The first fault of a text that has neither a fault of syntax nor of room. */
        private int judgeNames() {
            int toldAhead = 0;
            for (int i = 0; i < tokenCount && i < MAX_TOKENS; i++) {
                int fault = faultOfToken(i, toldAhead);
                if (fault != 0) {
                    place = places[i];
                    return fault;
                }
                if (tellsName(roles[i])) {
                    toldAhead++;
                }
            }
            return 0;
        }

        private static boolean tellsName(int role) {
            return role == INPUT_NAME || role == RELAY_NAME || role == LAMP_NAME;
        }

        private int faultOfToken(int i, int toldAhead) {
            int role = roles[i];
            if (role == SLOW_INT) {
                return values[i] > MAX_SLOW ? WRONG_SLOW : 0;
            }
            if (kinds[i] != NAME) {
                return 0;
            }
            if (tellsName(role)) {
                return isTold(values[i], toldAhead) ? TWICE : 0;
            }
            if (role == NEVER_NAME) {
                return greenOf(values[i], toldAhead) < 0 ? NAMELESS : 0;
            }
            int variable = variableOf(values[i]);
            codes[i] = variable;
            return variable < 0 ? NAMELESS : 0;
        }

        private boolean isTold(long name, int toldAhead) {
            for (int t = 0; t < toldAhead && t < MAX_TOLD; t++) {
                if (names[t] == name) {
                    return true;
                }
            }
            return false;
        }

        /** The number of a green lamp among the first that are told; -1: none bears the name. */
        private int greenOf(long name, int toldAhead) {
            for (int t = 0; t < toldAhead && t < MAX_TOLD; t++) {
                if (names[t] == name && sorts[t] == GREEN) {
                    return numbers[t];
                }
            }
            return -1;
        }

        /** The bit in a word of the input or relay that bears the name; -1: none does. */
        private int variableOf(long name) {
            for (int t = 0; t < told && t < MAX_TOLD; t++) {
                if (names[t] == name && sorts[t] == RELAY) {
                    return numbers[t];
                }
                if (names[t] == name && (sorts[t] == KEY || sorts[t] == TRACK)) {
                    return MAX_RELAYS + numbers[t];
                }
            }
            return -1;
        }

        /** The drawing of the text judged last, which had no fault. */
        Drawing draw() {
            Drawing drawing = new Drawing(inputs);
            for (int t = 0; t < told && t < MAX_TOLD; t++) {
                drawing.addTold(sorts[t], numbers[t], names[t]);
            }
            drawCircuits(drawing);
            drawing.complete();
            drawNevers(drawing);
            return drawing;
        }

        /** The number of the token behind the circuit that begins at token i. */
        private int circuitEnd(int i) {
            int end = i;
            while (end < tokenCount && end < MAX_TOKENS && kinds[end] != SEMICOLON) {
                end++;
            }
            return end;
        }

        private void drawCircuits(Drawing drawing) {
            int relay = -1;
            int lamp = -1;
            boolean ofLamp = false;
            for (int i = 0; i < tokenCount && i < MAX_TOKENS; i++) {
                if (roles[i] == RELAY_NAME) {
                    relay++;
                    ofLamp = false;
                } else if (roles[i] == LAMP_NAME) {
                    lamp++;
                    ofLamp = true;
                } else if (roles[i] == SLOW_INT) {
                    drawing.setSlow(relay, (int) values[i]);
                } else if (kinds[i] == EQUALS) {
                    drawing.addCircuit(ofLamp ? MAX_RELAYS + lamp : relay, codes, i + 1, circuitEnd(i));
                }
            }
        }

        private void drawNevers(Drawing drawing) {
            Wiring wiring = new Wiring(MAX_TOKENS);
            int green = -1;
            for (int i = 0; i < tokenCount && i < MAX_TOKENS; i++) {
                if (roles[i] == NEVER_NAME) {
                    green = greenOf(values[i], told);
                } else if (kinds[i] == IF) {
                    wiring.connect(codes, i + 1, circuitEnd(i), 0, drawing.trackBits());
                    drawing.addNever(green, wiring);
                }
            }
        }
    }

    // ==== drawings ====

    /** Circuits as rows of contacts, each with the contact to look at next if it is closed and if it is open. */
    private static final class Wiring {
        private static final int GOAL_CLOSED = -1;
        private static final int GOAL_OPEN = -2;
        private static final int LEVELS = 5;

        private final int size;
        /** Of each contact: its bit in a word, 1 with the sign !, 1 if it is open with its bit on. */
        final int[] variable;
        final int[] bang;
        private final int[] inverted;
        private final int[] whenClosed;
        private final int[] whenOpen;

        /** Of each level of brackets: the goals of what stands left of what is wired. */
        private final int[] closedGoal = new int[LEVELS];
        private final int[] openGoal = new int[LEVELS];
        private final int[] endGoal = new int[LEVELS];

        /** The first contact of each circuit. */
        final int[] first = new int[CIRCUITS];
        /** Contacts of inputs by inputs, contacts of relays by relays: those that are closed without flaws. */
        private final long[] closedByInputs = new long[INPUT_BITS + 1];
        private final long[] closedByRelays = new long[RELAY_BITS + 1];

        Wiring(int contacts) {
            size = contacts;
            variable = new int[contacts];
            bang = new int[contacts];
            inverted = new int[contacts];
            whenClosed = new int[contacts];
            whenOpen = new int[contacts];
        }

        /** How many contacts a row of codes has. */
        static int contactsIn(int[] codes, int from, int to) {
            int contacts = 0;
            for (int i = from; i < to && i < codes.length; i++) {
                if (codes[i] < CODE_SIGN) {
                    contacts++;
                }
            }
            return contacts;
        }

        /** Wires a circuit, its first contact at first, from the right to the left: so each goal is wired ahead. */
        void connect(int[] codes, int from, int to, int first, int tracks) {
            int contact = first + contactsIn(codes, from, to);
            int level = 0;
            closedGoal[0] = GOAL_CLOSED;
            endGoal[0] = GOAL_CLOSED;
            openGoal[0] = GOAL_OPEN;
            for (int i = Math.min(to, codes.length) - 1; i >= from && i >= 0; i--) {
                int code = codes[i];
                if (code < CODE_SIGN) {
                    contact--;
                    boolean not = i > from && codes[i - 1] == CODE_SIGN + NOT;
                    putContact(contact, code, not, (tracks >> code & 1) != 0, level);
                } else if (code == CODE_SIGN + AND) {
                    closedGoal[level] = contact;
                } else if (code == CODE_SIGN + OR) {
                    openGoal[level] = contact;
                    closedGoal[level] = endGoal[level];
                } else if (code == CODE_SIGN + CLOSE && level + 1 < LEVELS) {
                    level++;
                    closedGoal[level] = closedGoal[level - 1];
                    endGoal[level] = closedGoal[level - 1];
                    openGoal[level] = openGoal[level - 1];
                } else if (code == CODE_SIGN + OPEN && level > 0) {
                    level--;
                }
            }
        }

        private void putContact(int contact, int code, boolean not, boolean track, int level) {
            if (contact >= 0 && contact < size) {
                variable[contact] = code;
                bang[contact] = not ? 1 : 0;
                inverted[contact] = not != track ? 1 : 0;
                whenClosed[contact] = closedGoal[level];
                whenOpen[contact] = openGoal[level];
            }
        }

        /** Whether a contact without flaws is closed. */
        boolean isClosed(int contact, int word) {
            return contact >= 0 && contact < size && (word >> variable[contact] & 1) != inverted[contact];
        }

        /** Whether the circuit from contact first on is closed, its contacts without flaws. */
        boolean holds(int first, int word) {
            int contact = first;
            for (int i = 0; i < size && contact >= 0 && contact < size; i++) {
                contact = isClosed(contact, word) ? whenClosed[contact] : whenOpen[contact];
            }
            return contact == GOAL_CLOSED;
        }

        /** Those of some circuits (bits) that are closed with this set of closed contacts. */
        int circuitsWith(int which, long closed) {
            int bits = 0;
            for (int c = 0; c < CIRCUITS; c++) {
                int contact = (which >> c & 1) != 0 ? first[c] : GOAL_OPEN;
                for (int i = 0; i < size && contact >= 0 && contact < size; i++) {
                    contact = (closed >>> contact & 1) != 0 ? whenClosed[contact] : whenOpen[contact];
                }
                bits |= contact == GOAL_CLOSED ? 1 << c : 0;
            }
            return bits;
        }

        /** Fills the tables of closed contacts, of which there are so many. */
        void fillTables(int contacts) {
            for (int k = 0; k < contacts && k < size; k++) {
                boolean ofRelay = variable[k] < MAX_RELAYS;
                long[] table = ofRelay ? closedByRelays : closedByInputs;
                for (int bits = 0; bits < table.length; bits++) {
                    if (isClosed(k, ofRelay ? bits : bits << MAX_RELAYS)) {
                        table[bits] |= 1L << k;
                    }
                }
            }
        }

        /** The contacts that are closed without flaws (bits). */
        long contactsAt(int word) {
            return closedByInputs[word >> MAX_RELAYS & INPUT_BITS] | closedByRelays[word & RELAY_BITS];
        }
    }

    /** What has been found out about a drawing, kept for later calls. */
    private static final class Findings {
        private static final int MAX_TESTS = 30;
        private static final int NO = 1;
        private static final int YES = 2;
        /** Longs in a set of flaws by their indices. */
        private static final int SET_LONGS = 3;

        /** Of each flaw: whether it is bad alone (0: not known), its partners and its test, and if these are known. */
        final byte[] alone = new byte[MAX_FLAWS];
        final byte[] partnersKnown = new byte[MAX_FLAWS];
        final long[] partners = new long[SET_LONGS * MAX_FLAWS];
        final byte[] leastKnown = new byte[MAX_FLAWS];
        final long[] least = new long[MAX_FLAWS];
        final long[] suite = new long[MAX_TESTS];
        int suiteCount = NONE;

        boolean arePartners(int index, int other) {
            int at = SET_LONGS * index + (other >> 6);
            return at >= 0 && at < partners.length && (partners[at] >>> (other & 63) & 1) != 0;
        }

        void addPartner(int index, int other) {
            int at = SET_LONGS * index + (other >> 6);
            if (at >= 0 && at < partners.length) {
                partners[at] |= 1L << (other & 63);
            }
        }

        int countPartners(int index) {
            int partnerCount = 0;
            for (int i = 0; i < MAX_FLAWS; i++) {
                partnerCount += arePartners(index, i) ? 1 : 0;
            }
            return partnerCount;
        }

        /** The index of the n-th partner of a flaw, NONE if it has not so many. */
        int partnerAt(int index, int n) {
            int behind = n;
            for (int i = 0; i < MAX_FLAWS && behind >= 0; i++) {
                if (arePartners(index, i)) {
                    if (behind == 0) {
                        return i;
                    }
                    behind--;
                }
            }
            return NONE;
        }

        /** A test of the suite, HIDDEN if there is none. */
        long suiteTest(int k) {
            return k >= 0 && k < suiteCount && k < MAX_TESTS ? suite[k] : Trials.HIDDEN;
        }
    }

    /** A drawing that has been read. */
    private static final class Drawing {
        private static final int ITEMS = CIRCUITS + MAX_INPUTS;

        int inputs;
        int relays;
        int lamps;
        int contacts;
        private int nevers;

        /** By items (circuits, then inputs): the names, and how slow a relay is or the kind of another's first token. */
        private final long[] names = new long[ITEMS];
        private final int[] sorts = new int[ITEMS];

        /** The circuits' rows of codes, one behind the other, and where each begins and ends. */
        private final int[] codes = new int[MAX_TOKENS];
        private final int[] from = new int[CIRCUITS];
        private final int[] to = new int[CIRCUITS];
        private int codeCount;

        final Wiring wiring = new Wiring(MAX_CONTACTS);
        final int[] owner = new int[MAX_CONTACTS];

        final int[] flaws = new int[MAX_FLAWS];
        int flawCount;

        /** By words: the circuits that are closed, and the green lamps that must not show. */
        private final int[] circuits;
        private final byte[] forbidden;

        final Findings findings = new Findings();

        Drawing(int inputCount) {
            int words = 1 << (Math.max(0, Math.min(MAX_INPUTS, inputCount)) + MAX_RELAYS);
            circuits = new int[words];
            forbidden = new byte[words];
        }

        void addTold(int sort, int number, long name) {
            if (number < 0 || number >= MAX_RELAYS) {
                return;
            }
            int item = number;
            if (sort == RELAY) {
                relays++;
            } else if (sort == LAMP || sort == GREEN) {
                item = MAX_RELAYS + number;
                lamps++;
            } else {
                item = CIRCUITS + number;
                inputs++;
            }
            if (item < ITEMS) {
                names[item] = name;
                sorts[item] = sort == RELAY ? 0 : sort;
            }
        }

        void setSlow(int relay, int slow) {
            if (relay >= 0 && relay < MAX_RELAYS) {
                sorts[relay] = slow;
            }
        }

        int slowOf(int relay) {
            return relay >= 0 && relay < MAX_RELAYS ? sorts[relay] : 0;
        }

        /** Bits in a word of the inputs that are tracks. */
        int trackBits() {
            int bits = 0;
            for (int i = 0; i < MAX_INPUTS; i++) {
                if (sorts[CIRCUITS + i] == TRACK) {
                    bits |= 1 << (MAX_RELAYS + i);
                }
            }
            return bits;
        }

        void addCircuit(int circuit, int[] row, int start, int end) {
            int length = end - start;
            if (circuit < 0 || circuit >= CIRCUITS || start < 0 || end > row.length || length < 0
                    || codeCount + length > MAX_TOKENS) {
                return;
            }
            System.arraycopy(row, start, codes, codeCount, length);
            from[circuit] = codeCount;
            codeCount += length;
            to[circuit] = codeCount;
            wiring.first[circuit] = contacts;
            wiring.connect(row, start, end, contacts, trackBits());
            int behind = Math.min(MAX_CONTACTS, contacts + Wiring.contactsIn(row, start, end));
            for (; contacts < behind; contacts++) {
                owner[contacts] = circuit;
            }
        }

        /** Makes the flaws and the tables, when all circuits are there. */
        void complete() {
            for (int k = 0; k < contacts && k < MAX_CONTACTS; k++) {
                addFlaw(4 * k);
                addFlaw(4 * k + 1);
                if (k + 1 < contacts && k + 1 < MAX_CONTACTS && owner[k] == owner[k + 1]) {
                    addFlaw(4 * k + 2);
                }
            }
            for (int r = 0; r < relays; r++) {
                addFlaw(FIRST_STUCK + 2 * r);
                addFlaw(FIRST_STUCK + 2 * r + 1);
            }
            wiring.fillTables(contacts);
            for (int word = 0; word < circuits.length; word++) {
                circuits[word] = wiring.circuitsWith(circuitBits(), wiring.contactsAt(word));
            }
        }

        private void addFlaw(int flaw) {
            if (flawCount < MAX_FLAWS) {
                flaws[flawCount] = flaw;
                flawCount++;
            }
        }

        void addNever(int green, Wiring never) {
            nevers++;
            for (int word = 0; word < forbidden.length; word++) {
                if (green >= 0 && never.holds(0, word)) {
                    forbidden[word] |= (byte) (1 << green);
                }
            }
        }

        /** The circuits that are closed without flaws (bits). */
        int soundCircuits(int word) {
            return word >= 0 && word < circuits.length ? circuits[word] : 0;
        }

        int circuitBits() {
            return (1 << relays) - 1 | (1 << lamps) - 1 << MAX_RELAYS;
        }

        int forbiddenAt(int word) {
            return word >= 0 && word < forbidden.length ? forbidden[word] : 0;
        }

        /** The index of a flaw among all there are; -1: no such one. */
        int flawIndex(int flaw) {
            for (int i = 0; i < flawCount && i < MAX_FLAWS; i++) {
                if (flaws[i] == flaw) {
                    return i;
                }
            }
            return -1;
        }

        int flawAt(int index) {
            return index >= 0 && index < flawCount && index < MAX_FLAWS ? flaws[index] : NONE;
        }

        boolean isFlawOrNone(int flaw) {
            return flaw == NONE || flawIndex(flaw) >= 0;
        }

        /** The circuits that are unlike another drawing's (bits); NOTHING: it has not the same items. */
        int unlikeBits(Drawing other) {
            for (int item = 0; item < ITEMS; item++) {
                if (names[item] != other.names[item] || sorts[item] != other.sorts[item]) {
                    return NOTHING;
                }
            }
            int bits = 0;
            for (int c = 0; c < CIRCUITS; c++) {
                if (!hasSameCircuit(other, c)) {
                    bits |= 1 << c;
                }
            }
            return bits;
        }

        private boolean hasSameCircuit(Drawing other, int circuit) {
            int length = to[circuit] - from[circuit];
            if (length != other.to[circuit] - other.from[circuit]) {
                return false;
            }
            for (int i = 0; i < length; i++) {
                int here = from[circuit] + i;
                int there = other.from[circuit] + i;
                if (here < MAX_TOKENS && there < MAX_TOKENS && codes[here] != other.codes[there]) {
                    return false;
                }
            }
            return true;
        }

        int countOf(int what) {
            switch (what) {
                case 2:
                    return inputs;
                case 3:
                    return relays;
                case 4:
                    return lamps;
                case 5:
                    return contacts;
                case 6:
                    return nevers;
                case 7:
                    return flawCount;
                default:
                    return NONE;
            }
        }
    }

    // ==== huts ====

    /** A drawing, some of its circuits swapped for another one's, with up to two flaws. */
    private static final class Hut {
        private static final int UNKNOWN = -1;
        private static final int ON_WAY = -3;
        private static final int MAX_WAY = 64;
        private static final int MAX_STEPS = 1000;
        /** Slower than any relay can be. */
        private static final int NO_DROP = 10;

        private Drawing base;
        private Drawing other;
        private int swapped;
        private int firstFlaw = NONE;
        private int secondFlaw = NONE;
        /** Grows with each hut that is made ready. */
        int version;

        private long welded;
        private long broken;
        private long crossed;
        private int stuck;
        private int stuckUp;
        /** Circuits with flaws of contacts (bits). */
        private int hurt;

        /** By words: where it settles, as far as it is known. */
        private final byte[] settled = new byte[WORDS];
        /** The way that is looked at: its words, the relays that may still change there, where their ways end. */
        private final int[] way = new int[MAX_WAY];
        private final int[] left = new int[MAX_WAY];
        private final int[] end = new int[MAX_WAY];

        Hut(Drawing blank) {
            base = blank;
            other = blank;
            Arrays.fill(settled, (byte) UNKNOWN);
        }

        int inputCount() {
            return base.inputs;
        }

        void prepare(Drawing drawing, int f, int g) {
            prepareMixed(drawing, drawing, 0, f, g);
        }

        /** Takes drawing a, with a set of circuits and the nevers of drawing b, and two flaws. */
        void prepareMixed(Drawing a, Drawing b, int set, int f, int g) {
            if (a == base && b == other && set == swapped && f == firstFlaw && g == secondFlaw) {
                return;
            }
            base = a;
            other = b;
            swapped = set;
            firstFlaw = f;
            secondFlaw = g;
            welded = 0;
            broken = 0;
            crossed = 0;
            stuck = 0;
            stuckUp = 0;
            hurt = 0;
            harm(f);
            harm(g);
            Arrays.fill(settled, (byte) UNKNOWN);
            version++;
        }

        private void harm(int flaw) {
            if (flaw >= FIRST_STUCK) {
                int relay = 1 << (flaw - FIRST_STUCK >> 1);
                stuck |= relay;
                stuckUp |= (flaw & 1) == 0 ? relay : 0;
            } else if (flaw >= 0 && flaw < 4 * MAX_CONTACTS) {
                long contact = 1L << (flaw >> 2);
                welded |= (flaw & 3) == 0 ? contact : 0;
                broken |= (flaw & 3) == 1 ? contact : 0;
                crossed |= (flaw & 3) == 2 ? contact : 0;
                hurt |= 1 << base.owner[flaw >> 2];
            }
        }

        /** The circuits that are closed (bits). */
        int circuitsAt(int word) {
            int closed = base.soundCircuits(word) & ~swapped | other.soundCircuits(word) & swapped;
            if (hurt == 0) {
                return closed;
            }
            long ahead = base.wiring.contactsAt(word) & ~broken | welded;
            long contacts = ahead | ahead >>> 1 & crossed | (ahead & crossed) << 1;
            return closed & ~hurt | base.wiring.circuitsWith(hurt, contacts);
        }

        int lampsAt(int inputs, int relays) {
            return circuitsAt(wordOf(inputs, relays)) >> MAX_RELAYS & LAMP_BITS;
        }

        boolean isWrong(int word) {
            return (circuitsAt(word) >> MAX_RELAYS & other.forbiddenAt(word)) != 0;
        }

        /** The relays that may change next (bits). */
        private int movable(int word, int wanted) {
            int due = (word ^ wanted) & RELAY_BITS & ~stuck;
            int quick = due & wanted;
            int slowest = 0;
            int least = NO_DROP;
            for (int r = 0; r < MAX_RELAYS; r++) {
                int relay = 1 << r;
                if ((due & ~wanted & relay) != 0) {
                    int slow = base.slowOf(r);
                    if (slow < least) {
                        least = slow;
                        slowest = 0;
                    }
                    slowest |= slow == least ? relay : 0;
                }
            }
            if (least == 0) {
                return quick | slowest;
            }
            return quick != 0 ? quick : slowest;
        }

        /** Where it settles with these inputs from these relays (bits), or RACE. */
        int settle(int inputs, int relays) {
            int start = wordOf(inputs, relays & ~stuck | stuckUp);
            int depth = -1;
            int entering = settled[start] == UNKNOWN ? start : NONE;
            for (int step = 0; step < MAX_STEPS && depth < MAX_WAY && (depth >= 0 || entering >= 0); step++) {
                if (entering >= 0 && depth + 1 < MAX_WAY) {
                    depth++;
                    enter(depth, entering, movable(entering, circuitsAt(entering)));
                    entering = NONE;
                } else if (depth >= 0 && left[depth] == 0) {
                    settled[way[depth]] = (byte) end[depth];
                    depth--;
                    if (depth >= 0) {
                        join(depth, end[depth + 1]);
                    }
                } else if (depth >= 0) {
                    int relay = left[depth] & -left[depth];
                    left[depth] ^= relay;
                    int found = settled[way[depth] ^ relay];
                    if (found != UNKNOWN) {
                        join(depth, found);
                    } else {
                        entering = way[depth] ^ relay;
                    }
                }
            }
            return settled[start];
        }

        private void enter(int depth, int word, int movable) {
            way[depth] = word;
            left[depth] = movable;
            end[depth] = movable == 0 ? word & RELAY_BITS : UNKNOWN;
            settled[word] = ON_WAY;
        }

        /** Where the ways from here end, if one of them ends there. A way that comes back to itself has no end. */
        private void join(int depth, int found) {
            if (found >= 0 && (end[depth] == UNKNOWN || end[depth] == found)) {
                end[depth] = found;
            } else {
                end[depth] = RACE;
                left[depth] = 0;
            }
        }
    }

    /** What a hut reaches by acts, the fewest acts first, of these the first by inputs; and which flaws are bad. */
    private static final class Survey {
        private final Hut hut;
        private final int[] queue = new int[WORDS];
        /** Of each in the queue: 8 * its place from which an act led to it, and the act. */
        private final int[] origin = new int[WORDS];
        /** By inputs: the relays' states that are reached. */
        private final long[] seen = new long[INPUT_BITS + 1];
        private int tail;
        private int races;
        private int wrongAt;
        private boolean complete;
        private int version = NONE;

        Survey(Hut of) {
            hut = of;
        }

        int reachedCount() {
            return tail;
        }

        int raceCount() {
            return races;
        }

        boolean isSafe() {
            return wrongAt < 0 && races == 0;
        }

        /** Looks at all that is reached; it may stop at the first that is wrong, or at a race. */
        void explore(boolean stopAtWrong, boolean stopAtRace) {
            if (version == hut.version && (complete || isAtStop(stopAtWrong, stopAtRace))) {
                return;
            }
            startFrom(hut.settle(0, 0));
            for (int head = 0; head < tail && head < WORDS; head++) {
                int word = queue[head];
                if (wrongAt < 0 && hut.isWrong(word)) {
                    wrongAt = head;
                }
                if (isAtStop(stopAtWrong, stopAtRace)) {
                    return;
                }
                for (int act = 0; act < hut.inputCount(); act++) {
                    int inputs = word >> MAX_RELAYS ^ 1 << act;
                    int relays = hut.settle(inputs, word);
                    if (relays < 0) {
                        races++;
                    } else {
                        reach(inputs, relays, 8 * head + act);
                    }
                }
            }
            complete = true;
        }

        private boolean isAtStop(boolean stopAtWrong, boolean stopAtRace) {
            return stopAtWrong && wrongAt >= 0 || stopAtRace && races > 0;
        }

        private void startFrom(int start) {
            version = hut.version;
            complete = false;
            tail = 0;
            races = 0;
            wrongAt = NONE;
            Arrays.fill(seen, 0);
            if (start < 0) {
                races = 1;
            } else {
                reach(0, start, 0);
            }
        }

        private void reach(int inputs, int relays, int from) {
            long bit = 1L << relays;
            if ((seen[inputs & INPUT_BITS] & bit) != 0 || tail >= WORDS) {
                return;
            }
            seen[inputs & INPUT_BITS] |= bit;
            queue[tail] = wordOf(inputs, relays);
            origin[tail] = from;
            tail++;
        }

        /** How many acts lead to the first that is wrong; NOTHING: nothing is. */
        int actsToWrong() {
            if (wrongAt < 0) {
                return NOTHING;
            }
            int acts = 0;
            for (int at = wrongAt; at > 0 && at < WORDS && acts < WORDS; at = origin[at] >> 3) {
                acts++;
            }
            return acts;
        }

        int actToWrong(int i) {
            int acts = actsToWrong();
            if (i < 0 || i >= acts) {
                return NONE;
            }
            int at = wrongAt;
            for (int behind = acts - 1; behind > i && at > 0 && at < WORDS; behind--) {
                at = origin[at] >> 3;
            }
            return at >= 0 && at < WORDS ? origin[at] & 7 : NONE;
        }

        /** Finds out of each flaw whether it is bad alone: how many are. */
        int countBad(Drawing drawing) {
            byte[] alone = drawing.findings.alone;
            int bad = 0;
            for (int i = 0; i < drawing.flawCount && i < alone.length; i++) {
                if (alone[i] == 0) {
                    hut.prepare(drawing, drawing.flawAt(i), NONE);
                    explore(true, false);
                    alone[i] = (byte) (wrongAt >= 0 ? Findings.YES : Findings.NO);
                }
                bad += alone[i] == Findings.YES ? 1 : 0;
            }
            return bad;
        }

        /** Finds the flaws that are bad together with a flaw, though neither is alone. */
        void findPartners(Drawing drawing, int index) {
            Findings findings = drawing.findings;
            if (index < 0 || index >= MAX_FLAWS || findings.partnersKnown[index] != 0) {
                return;
            }
            findings.partnersKnown[index] = 1;
            countBad(drawing);
            for (int i = 0; i < drawing.flawCount && i < MAX_FLAWS; i++) {
                if (i == index || findings.alone[index] != Findings.NO || findings.alone[i] != Findings.NO) {
                    continue;
                }
                boolean bad = findings.partnersKnown[i] != 0
                        ? findings.arePartners(i, index)
                        : areBadTogether(drawing, index, i);
                if (bad) {
                    findings.addPartner(index, i);
                }
            }
        }

        private boolean areBadTogether(Drawing drawing, int index, int other) {
            hut.prepare(drawing, drawing.flawAt(index), drawing.flawAt(other));
            explore(true, false);
            return wrongAt >= 0;
        }
    }

    /** Tests that see flaws. A test is one number: 3 bits an act from the lowest on, above them how many there are. */
    private static final class Trials {
        static final long HIDDEN = -1;
        private static final int MAX_ACTS = 12;
        private static final int COUNT_SHIFT = 40;

        /** What is seen at two states: like lamps, something unlike, or nothing any more. */
        private static final int ALIKE = 0;
        private static final int SEEN = 1;
        private static final int DARK = 2;

        /** A place of the search: inputs, the sound hut's relays, the flawed one's; then the act, then where from. */
        private static final int PLACE_BITS = 17;
        private static final int PLACES = 1 << PLACE_BITS;
        private static final int FROM_SHIFT = 20;

        private final Hut sound;
        private final Hut flawed;
        /** The queue grows as searches need it: few need much. */
        private long[] queue = new long[256];
        private int tail;
        private final long[] reached = new long[PLACES / 64];

        Trials(Hut without, Hut with) {
            sound = without;
            flawed = with;
        }

        static int actsOf(long test) {
            return test < 0 ? 0 : (int) (test >> COUNT_SHIFT);
        }

        /** The i-th act of a test, NONE if it has not so many. */
        static int actAt(long test, int i) {
            return i < 0 || i >= actsOf(test) ? NONE : (int) (test >> 3 * i) & 7;
        }

        /** The least test for a flaw, or HIDDEN. */
        long leastTest(Drawing drawing, int index) {
            Findings findings = drawing.findings;
            if (index < 0 || index >= MAX_FLAWS) {
                return HIDDEN;
            }
            if (findings.leastKnown[index] != 0) {
                return findings.least[index];
            }
            findings.leastKnown[index] = 1;
            findings.least[index] = HIDDEN;
            prepareBoth(drawing, drawing.flawAt(index));
            if (beginSearch() == SEEN) {
                findings.least[index] = 0;
            }
            int levelEnd = 1;
            int acts = 0;
            for (int head = 0; head < tail && head < PLACES && head < queue.length; head++) {
                if (head == levelEnd) {
                    acts++;
                    levelEnd = tail;
                }
                if (acts >= MAX_ACTS) {
                    break;
                }
                int act = actFrom(head, drawing.inputs);
                if (act >= 0) {
                    findings.least[index] = testTo(head, act, acts);
                    break;
                }
            }
            return findings.least[index];
        }

        /** What is seen at the start, from which the search goes on if that is alike. */
        private int beginSearch() {
            Arrays.fill(reached, 0);
            tail = 0;
            int soundRelays = sound.settle(0, 0);
            int flawedRelays = flawed.settle(0, 0);
            int found = look(0, soundRelays, flawedRelays);
            if (found == ALIKE) {
                reachPlace(0, soundRelays, flawedRelays, 0);
            }
            return found;
        }

        private void prepareBoth(Drawing drawing, int flaw) {
            sound.prepare(drawing, NONE, NONE);
            flawed.prepare(drawing, flaw, NONE);
        }

        private int look(int inputs, int soundRelays, int flawedRelays) {
            if (soundRelays < 0 || flawedRelays < 0) {
                return soundRelays < 0 && flawedRelays < 0 ? DARK : SEEN;
            }
            int unlike = sound.circuitsAt(wordOf(inputs, soundRelays)) ^ flawed.circuitsAt(wordOf(inputs, flawedRelays));
            return unlike >> MAX_RELAYS == 0 ? ALIKE : SEEN;
        }

        /** Goes on from a place by each act: the first that sees the flaw, or NONE. */
        private int actFrom(int head, int inputCount) {
            int place = (int) queue[head] & PLACES - 1;
            for (int act = 0; act < inputCount; act++) {
                int inputs = place >> 12 ^ 1 << act;
                int soundRelays = sound.settle(inputs, place >> 6 & RELAY_BITS);
                int flawedRelays = flawed.settle(inputs, place & RELAY_BITS);
                int found = look(inputs, soundRelays, flawedRelays);
                if (found == SEEN) {
                    return act;
                }
                if (found == ALIKE) {
                    reachPlace(inputs, soundRelays, flawedRelays, (long) head << FROM_SHIFT | (long) act << PLACE_BITS);
                }
            }
            return NONE;
        }

        private void reachPlace(int inputs, int soundRelays, int flawedRelays, long origin) {
            int place = (inputs & INPUT_BITS) << 12 | (soundRelays & RELAY_BITS) << 6 | flawedRelays & RELAY_BITS;
            long bit = 1L << (place & 63);
            if ((reached[place >> 6] & bit) != 0 || tail >= PLACES) {
                return;
            }
            reached[place >> 6] |= bit;
            if (tail >= queue.length) {
                queue = Arrays.copyOf(queue, Math.min(PLACES, 4 * queue.length));
            }
            queue[tail] = origin | place;
            tail++;
        }

        /** The test that goes to a place of the queue by so many acts, and then does one more. */
        private long testTo(int head, int act, int acts) {
            long test = (long) (acts + 1) << COUNT_SHIFT | (long) act << 3 * acts;
            int at = head;
            for (int i = acts - 1; i >= 0 && at > 0 && at < queue.length; i--) {
                test |= (queue[at] >> PLACE_BITS & 7) << 3 * i;
                at = (int) (queue[at] >> FROM_SHIFT);
            }
            return test;
        }

        /** Whether a test sees the flaw for which both huts are ready. */
        private boolean isSeeing(long test) {
            int inputs = 0;
            int soundRelays = sound.settle(0, 0);
            int flawedRelays = flawed.settle(0, 0);
            int acts = actsOf(test);
            for (int i = 0; i <= acts; i++) {
                int found = look(inputs, soundRelays, flawedRelays);
                if (found != ALIKE) {
                    return found == SEEN;
                }
                if (i < acts) {
                    inputs ^= 1 << actAt(test, i);
                    soundRelays = sound.settle(inputs, soundRelays);
                    flawedRelays = flawed.settle(inputs, flawedRelays);
                }
            }
            return false;
        }

        int countHidden(Drawing drawing) {
            int count = 0;
            for (int i = 0; i < drawing.flawCount; i++) {
                count += leastTest(drawing, i) == HIDDEN ? 1 : 0;
            }
            return count;
        }

        void makeSuite(Drawing drawing) {
            Findings findings = drawing.findings;
            if (findings.suiteCount >= 0) {
                return;
            }
            findings.suiteCount = 0;
            for (int i = 0; i < drawing.flawCount && findings.suiteCount < Findings.MAX_TESTS; i++) {
                long test = leastTest(drawing, i);
                if (test == HIDDEN) {
                    continue;
                }
                prepareBoth(drawing, drawing.flawAt(i));
                boolean seen = false;
                for (int k = 0; k < findings.suiteCount && !seen; k++) {
                    seen = isSeeing(findings.suiteTest(k));
                }
                if (!seen) {
                    findings.suite[findings.suiteCount] = test;
                    findings.suiteCount++;
                }
            }
        }
    }

    /** Plans from one drawing to another, over all sets of their unlike circuits. */
    private static final class Planner {
        private static final int MAX_SETS = 1 << MAX_UNLIKE;

        private final Hut hut;
        private final Survey survey;
        private Drawing first;
        private Drawing second;
        private int most;

        /** Of each set, by its number: its bits, whether it is safe, and how many stages lead to all (NOTHING: none). */
        private final int[] bits = new int[MAX_SETS];
        private final int[] safety = new int[MAX_SETS];
        private final int[] stages = new int[MAX_SETS];
        private int setCount;

        Planner(Hut of, Survey by) {
            hut = of;
            survey = by;
        }

        /** Finds the plan from a to b with at most k circuits a stage. */
        void findPlan(Drawing a, Drawing b, int unlike, int k) {
            if (a != first || b != second) {
                first = a;
                second = b;
                most = 0;
                listSets(unlike);
                for (int s = 0; s < setCount && s < MAX_SETS; s++) {
                    hut.prepareMixed(a, b, bits[s], NONE, NONE);
                    survey.explore(true, true);
                    safety[s] = survey.isSafe() ? 1 : 0;
                }
            }
            if (k != most) {
                most = k;
                for (int s = Math.min(setCount, MAX_SETS) - 1; s >= 0; s--) {
                    stages[s] = stagesFrom(s);
                }
            }
        }

        /** Lists the sets, the least bits first. */
        private void listSets(int unlike) {
            bits[0] = 0;
            setCount = 1;
            for (int c = 0; c < CIRCUITS; c++) {
                if ((unlike >> c & 1) != 0 && 2 * setCount <= MAX_SETS) {
                    for (int s = 0; s < setCount; s++) {
                        bits[setCount + s] = bits[s] | 1 << c;
                    }
                    setCount *= 2;
                }
            }
        }

        private int stagesFrom(int s) {
            if (safety[s] == 0) {
                return NOTHING;
            }
            if (s == setCount - 1) {
                return 0;
            }
            int least = NOTHING;
            for (int t = s + 1; t < setCount && t < MAX_SETS; t++) {
                if (isStage(s, t) && stages[t] >= 0 && (least < 0 || stages[t] + 1 < least)) {
                    least = stages[t] + 1;
                }
            }
            return least;
        }

        private boolean isStage(int s, int t) {
            return (s & ~t) == 0 && s != t && Integer.bitCount(t ^ s) <= most;
        }

        int stageCount() {
            return stages[0];
        }

        /** The bits of the set behind the n-th stage, of which the plan has so many. */
        int setBehind(int n) {
            int s = 0;
            for (int i = 0; i <= n && i < MAX_UNLIKE; i++) {
                int t = s + 1;
                while (t < setCount - 1 && t < MAX_SETS - 1 && !(isStage(s, t) && stages[t] == stages[s] - 1)) {
                    t++;
                }
                s = Math.min(t, MAX_SETS - 1);
            }
            return bits[s];
        }
    }

    /** Logs and voids, and which flaws fit them. */
    private static final class Logbook {
        private static final int LOG = -1;
        private static final int BASE = 5;
        private static final int ACTS_UNIT = 25;
        /** Rows of 0 to 2 acts: none, one of 5, two of 5 each. */
        private static final int ROWS = 1 + BASE + BASE * BASE;
        /** What may be seen: 32 sets of lamps, or a race. */
        private static final int OUTCOMES = LAMP_BITS + 2;

        private final Hut hut;
        private final int[] counts = new int[MAX_LOGS];
        private final int[] acts = new int[MAX_LOGS];
        private final int[] lamps = new int[MAX_LOGS];
        /** LOG, or the log that a void is of. */
        private final int[] voidOf = new int[MAX_LOGS];
        private int size;
        private final int[] groups = new int[ROWS * OUTCOMES];

        Logbook(Hut of) {
            hut = of;
        }

        int entryCount() {
            return size;
        }

        boolean isKnown(int n) {
            return n >= 0 && n <= size;
        }

        /** Writes a log: its number, or NONE if it can't be one. */
        int write(Drawing drawing, int n, int digits, int shown) {
            boolean hasLamps = shown >= 0 && shown < 1 << drawing.lamps;
            if (size >= MAX_LOGS || !hasLamps || !areActs(drawing, n, digits)) {
                return NONE;
            }
            return addEntry(n, digits, shown, LOG);
        }

        private static boolean areActs(Drawing drawing, int n, int digits) {
            if (n < 0 || n > MAX_LOG_ACTS || digits < 0) {
                return false;
            }
            int rest = digits;
            for (int i = 0; i < n; i++) {
                if (rest % BASE >= drawing.inputs) {
                    return false;
                }
                rest /= BASE;
            }
            return rest == 0;
        }

        private int addEntry(int n, int digits, int shown, int of) {
            counts[size] = n;
            acts[size] = digits;
            lamps[size] = shown;
            voidOf[size] = of;
            size++;
            return size - 1;
        }

        /** Writes a void of a log: its number, or NONE if it can't be one. */
        int writeVoid(int log) {
            if (size >= MAX_LOGS || log < 0 || log >= size || log >= MAX_LOGS || voidOf[log] != LOG) {
                return NONE;
            }
            return addEntry(0, 0, 0, log);
        }

        private boolean isVoid(int log, int n) {
            for (int i = 0; i < n && i < size && i < MAX_LOGS; i++) {
                if (voidOf[i] == log) {
                    return true;
                }
            }
            return false;
        }

        /** The lamps that the hut shows behind a row of acts, or RACE. */
        private int outcome(int n, int digits) {
            int inputs = 0;
            int relays = hut.settle(0, 0);
            int rest = digits;
            for (int i = 0; i < n && relays >= 0; i++) {
                int input = rest % BASE;
                rest /= BASE;
                if (input < hut.inputCount()) {
                    inputs ^= 1 << input;
                    relays = hut.settle(inputs, relays);
                }
            }
            return relays < 0 ? RACE : hut.lampsAt(inputs, relays);
        }

        boolean isFitting(Drawing drawing, int flaw, int n) {
            hut.prepare(drawing, flaw, NONE);
            for (int i = 0; i < n && i < size && i < MAX_LOGS; i++) {
                if (voidOf[i] == LOG && !isVoid(i, n)) {
                    int shown = outcome(counts[i], acts[i]);
                    if (shown != RACE && shown != lamps[i]) {
                        return false;
                    }
                }
            }
            return true;
        }

        int countFitting(Drawing drawing, int n) {
            int fitting = 0;
            for (int i = -1; i < drawing.flawCount; i++) {
                fitting += isFitting(drawing, drawing.flawAt(i), n) ? 1 : 0;
            }
            return fitting;
        }

        /** The next log: 25 * how many acts it has, and its acts; NOTHING: fewer than two fit. */
        int bestRow(Drawing drawing, int n) {
            Arrays.fill(groups, 0);
            int fitting = 0;
            for (int i = -1; i < drawing.flawCount; i++) {
                if (isFitting(drawing, drawing.flawAt(i), n)) {
                    fitting++;
                    addToGroups(drawing);
                }
            }
            if (fitting < 2) {
                return NOTHING;
            }
            int best = 0;
            for (int row = 1; row < ROWS; row++) {
                if (isRow(drawing, row) && greatestGroup(row) < greatestGroup(best)) {
                    best = row;
                }
            }
            return ACTS_UNIT * rowCount(best) + rowActs(best);
        }

        private static int rowCount(int row) {
            return row == 0 ? 0 : row <= BASE ? 1 : 2;
        }

        /** The acts of a row as a log has them; the rows stand in the order of their first act, then the second. */
        private static int rowActs(int row) {
            if (row <= BASE) {
                return Math.max(0, row - 1);
            }
            int pair = row - 1 - BASE;
            return pair / BASE + BASE * (pair % BASE);
        }

        private static boolean isRow(Drawing drawing, int row) {
            return areActs(drawing, rowCount(row), rowActs(row));
        }

        private void addToGroups(Drawing drawing) {
            for (int row = 0; row < ROWS; row++) {
                if (isRow(drawing, row)) {
                    int shown = outcome(rowCount(row), rowActs(row));
                    groups[row * OUTCOMES + (shown < 0 ? OUTCOMES - 1 : shown & LAMP_BITS)]++;
                }
            }
        }

        private int greatestGroup(int row) {
            int greatest = 0;
            for (int o = 0; o < OUTCOMES; o++) {
                greatest = Math.max(greatest, groups[row * OUTCOMES + o]);
            }
            return greatest;
        }
    }

    /** The hut of the drawing at hand gone through by hand, round by round. */
    private static final class Handwork {
        private Drawing drawing;
        private int inputs;
        private int relays;
        private long straps;
        private boolean clashed;
        private final int[] ages = new int[MAX_RELAYS];
        /** In how many rounds, one after the other up to now, each relay was to drop. */
        private final int[] waits = new int[MAX_RELAYS];

        Handwork(Drawing blank) {
            drawing = blank;
        }

        void takeDrawing(Drawing atHand) {
            drawing = atHand;
            inputs = 0;
            relays = 0;
            straps = 0;
            clashed = false;
            Arrays.fill(ages, 0);
            Arrays.fill(waits, 0);
        }

        boolean hasClashed() {
            return clashed;
        }

        boolean setInput(int input, boolean on) {
            if (input < 0 || input >= drawing.inputs) {
                return false;
            }
            inputs = on ? inputs | 1 << input : inputs & ~(1 << input);
            return true;
        }

        boolean layStrap(int contact, boolean on) {
            if (contact < 0 || contact >= drawing.contacts) {
                return false;
            }
            straps = on ? straps | 1L << contact : straps & ~(1L << contact);
            return true;
        }

        boolean setAge(int relay, int v) {
            if (relay < 0 || relay >= drawing.relays || relay >= MAX_RELAYS || v < 0 || v > MAX_AGE) {
                return false;
            }
            ages[relay] = v;
            return true;
        }

        private int circuitsNow() {
            long closed = drawing.wiring.contactsAt(wordOf(inputs, relays)) | straps;
            return drawing.wiring.circuitsWith(drawing.circuitBits(), closed);
        }

        /** A round: the relays that changed in it (bits). */
        int goRound() {
            int wanted = circuitsNow() & RELAY_BITS;
            int changed = wanted & ~relays;
            for (int r = 0; r < MAX_RELAYS; r++) {
                int relay = 1 << r;
                if ((relays & ~wanted & relay) == 0) {
                    waits[r] = 0;
                } else if (waits[r] >= drawing.slowOf(r) + ages[r]) {
                    waits[r] = 0;
                    changed |= relay;
                } else {
                    waits[r]++;
                }
            }
            relays ^= changed;
            clashed = isClash(changed);
            return changed;
        }

        private boolean isClash(int changed) {
            for (int k = 0; k < drawing.contacts && k < MAX_CONTACTS; k++) {
                int of = drawing.wiring.variable[k];
                int owner = drawing.owner[k];
                boolean twoRelays = of < MAX_RELAYS && owner < MAX_RELAYS && of != owner;
                if (twoRelays && (changed >> of & 1) != 0 && (changed >> owner & 1) != 0) {
                    return true;
                }
            }
            return false;
        }

        int tell(int what) {
            int lamps = circuitsNow() >> MAX_RELAYS;
            switch (what) {
                case 0:
                    return inputs;
                case 1:
                    return relays;
                case 2:
                    return lamps;
                case 3:
                    return Long.bitCount(straps);
                case 4:
                    return (lamps & drawing.forbiddenAt(wordOf(inputs, relays))) != 0 ? 1 : 0;
                default:
                    return NONE;
            }
        }
    }
}
