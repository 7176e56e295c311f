/** The boundaries of "V.": logs and voids, which flaws fit them, and the log to take next. */
final class LogBounds {
    private static final int NONE = -1;
    private static final int LEAST = Integer.MIN_VALUE;
    private static final int MOST = Integer.MAX_VALUE;
    private static final String ONE = "key k;lamp l=k;";
    private static final String AND = "key a;key b;lamp l=a&b;";
    private static final String FIVES = "key a;key b;key c;key d;key e;lamp p=a;lamp q=b;lamp r=c;lamp s=d;lamp t=e;";
    private final Held held;

    private LogBounds(Held held) {
        this.held = held;
    }

    static void run(Held held) {
        LogBounds b = new LogBounds(held);
        b.forty();
        b.fitting();
        b.fittingRaces();
        b.rows();
        b.log();
        b.logRefused();
        b.annul();
        b.fits();
        b.otherInputs();
        b.suspects();
        b.next();
    }

    private void forty() {
        held.sentence("==== V. LOGS, numbered from 0 on, 40 at most: a row of 0 to 6 ACTS and the LAMPS that showed behind them (bits);"
                + " VOIDS of LOGS in one row with them; KNOWN by n: the first n.");
        RelayHut logs = Check.hutOf(ONE);
        RelayHut mixed = Check.hutOf(ONE);
        RelayHut voids = Check.hutOf(ONE);
        voids.log(0, 0, 0);
        for (int i = 0; i < 40; i++) {
            held.due("log " + i, logs.log(i % 7, 0, i % 2), i);
            held.due("log or void " + i, i % 3 == 2 ? mixed.annul(i - 1) : mixed.log(0, 0, 0), i);
            if (i > 0) held.due("void " + i, voids.annul(0), i);
        }
        for (RelayHut x : new RelayHut[] {logs, mixed, voids}) {
            held.due("a 41st log", x.log(0, 0, 0), NONE);
            held.due("a 41st, a void", x.annul(0), NONE);
            held.due("40 are there", x.count(8), 40);
            held.due("known by 40", x.suspects(40) != NONE, true);
            held.due("known by 41", x.suspects(41), NONE);
        }
        // each log known excludes one flaw more: welded l, broken l; the third one none and all
        RelayHut known = Check.hutOf("key k;lamp l=k;lamp m=!k;");
        known.log(0, 0, 2);
        known.log(1, 0, 1);
        known.log(2, 0, 1);
        int[] suspects = {5, 3, 1, 0};
        for (int n = 0; n < 4; n++) held.due("known by " + n, known.suspects(n), suspects[n]);
        held.due("l welded, known by 0", known.fits(0, 0), 1);
        held.due("l welded, known by 1", known.fits(0, 1), 0);
        held.due("l broken, known by 1", known.fits(1, 1), 1);
        held.due("l broken, known by 2", known.fits(1, 2), 0);
        held.due("none, known by 2", known.fits(NONE, 2), 1);
        held.due("none, known by 3", known.fits(NONE, 3), 0);
    }

    private void fitting() {
        held.sentence("FITS: a HUT of the DRAWING AT HAND with one FLAW, or (NONE) with none, if by each LOG that is KNOWN, and not VOID by these,"
                + " it shows just these LAMPS, or is in a RACE (at START or behind one of its ACTS).");
        for (int lamps = 0; lamps < 4; lamps++) {
            RelayHut x = Check.hutOf("key k;lamp l=k;lamp m=k;");
            x.log(1, 0, lamps);
            held.due("just these lamps: " + lamps, x.fits(NONE, 1), lamps == 3 ? 1 : 0);
            held.due("l broken, lamps " + lamps, x.fits(1, 1), lamps == 2 ? 1 : 0);
            x.annul(0);
            held.due("void", x.fits(NONE, 2), 1);
        }
        RelayHut y = Check.hutOf("key k;lamp l=k;lamp m=k;");
        y.log(1, 0, 3);
        held.due("both show", y.fits(NONE, 1), 1);
        held.due("one is broken", y.fits(1, 1), 0);
        held.due("the other one is", y.fits(5, 1), 0);
        held.due("one is welded", y.fits(0, 1), 1);
        y.log(0, 0, 1);
        held.due("by each: none", y.fits(NONE, 2), 0);
        held.due("by each: welded", y.fits(0, 2), 1);
        held.due("by each: the other one welded", y.fits(4, 2), 0);
        y.annul(1);
        held.due("a void that is not known", y.fits(NONE, 2), 0);
        held.due("a void that is known", y.fits(NONE, 3), 1);
        held.due("the other one still counts", y.fits(1, 3), 0);
        y.annul(0);
        held.due("both void", y.fits(1, 4), 1);
        held.due("one of them is not known to be", y.fits(1, 3), 0);
        // another drawing at hand
        Check.read(y, "key k;lamp l=!k;");
        held.due("of the one at hand", y.fits(NONE, 1), 0);
        held.due("none shows a second lamp", y.fits(0, 1) + y.fits(1, 1), 0);
        held.due("behind the first void", y.fits(NONE, 3), 0);
        held.due("behind both voids", y.fits(NONE, 4), 1);
    }

    private void fittingRaces() {
        RelayHut start = Check.hutOf("key k;relay r=!r;lamp l=k;");
        start.log(0, 0, 1);
        start.log(1, 0, 0);
        held.due("a race at the start", start.fits(NONE, 2), 1);
        held.due("welded, in it", start.fits(4, 2), 1);
        held.due("no race, and another lamp", start.fits(200, 2), 0);
        held.due("no race, and the lamps of one", start.fits(201, 1), 0);
        RelayHut act = Check.hutOf("key k;key j;relay r=k&!r;lamp l=j;");
        act.log(3, 1, 0);
        held.due("a race behind the second act: j, k, k", act.log(3, 1, 0), 1);
        held.due("it fits", act.fits(NONE, 2), 1);
        held.due("no race, and another lamp", act.fits(201, 2), 0);
        act.log(1, 1, 0);
        held.due("j alone is no race", act.fits(NONE, 3), 0);
        held.due("l broken", act.fits(9, 3), 1);
        RelayHut last = Check.hutOf("key k;key j;relay r=k&!r;lamp l=j;");
        last.log(6, 1 + 5 + 25 + 125 + 625, 1);
        last.log(6, 1 + 5 + 25 + 125 + 625, 0);
        held.due("a race behind the last act: five times j, then k", last.fits(NONE, 2), 1);
        last.log(5, 1 + 5 + 25 + 125 + 625, 1);
        held.due("without it l shows", last.fits(NONE, 3), 1);
        last.log(5, 1 + 5 + 25 + 125 + 625, 0);
        held.due("and nothing else", last.fits(NONE, 4), 0);
    }

    private void rows() {
        held.sentence("THE NEXT LOG: of rows of 0 to 2 ACTS that by which the greatest number of FLAWS (and NONE) that FIT and that show alike LAMPS"
                + " (or are all in a RACE) is least; of these the fewest ACTS, the first by INPUTS.");
        // by a: two show, four don't; by b, and by a and b, likewise
        RelayHut x = Check.hutOf(AND);
        held.due("the fewest acts, the first by inputs", x.next(0), 25);
        x.log(1, 0, 0);
        // none, a welded, a broken, b broken: by b a's weld alone shows, by a and b the first two
        held.due("two acts", x.next(1), 50 + 5);
        x.log(2, 5, 0);
        // a broken and b broken show alike by every row
        held.due("no acts, if all are alike", x.next(2), 0);
        // 5 keys: of those that don't light at the start e on and off again parts 3 from 5
        RelayHut last = Check.hutOf("key a;key b;key c;key d;key e;relay r=r|e;lamp l=r&!e;");
        held.due("no acts part 8 from 5, e and e too", last.next(0), 0);
        last.log(0, 0, 0);
        held.due("the last row of all", last.next(1), 50 + 4 + 20);
        RelayHut fifth = Check.hutOf("key a;key b;key c;key d;key e;lamp l=e&e;");
        held.due("the last row of one act", fifth.next(0), 25 + 4);
        RelayHut order = Check.hutOf("key a;key b;relay r=r|b&!a;lamp l=r&a;");
        order.log(0, 0, 0);
        order.log(1, 0, 0);
        order.log(2, 5, 0);
        order.log(1, 1, 0);
        held.due("b, then a", order.next(4), 50 + 1);
        // races stand together, apart from those that show nothing
        RelayHut race = Check.hutOf("key a;relay r=a&!r;lamp l=r;");
        held.due("6, 2 and 2 at the start; 5 races, 3 and 2 behind a", race.next(0), 25);
        RelayHut all = Check.hutOf("key a;relay r=a&!r;lamp p=a;lamp q=a;lamp s=a;lamp t=a;lamp u=a;");
        held.due("12 in the dark at the start; 12 races behind a", all.next(0), 0);
        all.log(0, 0, 0);
        held.due("12 and a race at the start; 7 races, and 6 that show all five lamps, behind a", all.next(1), 25);
        RelayHut twice = Check.hutOf("key a;key b;relay r=r|a;lamp l=r&!a;");
        twice.log(0, 0, 0);
        held.due("the first input twice", twice.next(1), 50);
        RelayHut three = Check.hutOf("key a;key b;key c;lamp l=a&b&c;");
        three.log(2, 5, 0);
        three.log(2, 10, 0);
        three.log(2, 1 + 10, 0);
        held.due("three acts would part them", three.suspects(3), 4);
        held.due("but two can't", three.next(3), 0);
        held.due("without inputs", Check.hutOf("relay r=r;lamp l=r;").next(0), 0);
    }

    // ==== promises 29 to 33 ====

    private void log() {
        held.sentence("`int log(int n, int acts, int lamps)`: A LOG of n ACTS (0 .. 6), the i-th one's INPUT is the digit i of acts"
                + " to the base 5 (the lowest first): its number.");
        RelayHut x = Check.hutOf("key a;key b;relay r=r|b&!a;lamp l=r&a;");
        held.due("b, then a", x.log(2, 1, 1), 0);
        held.due("it shows", x.fits(NONE, 1), 1);
        held.due("a, then b", x.log(2, 5, 0), 1);
        held.due("it doesn't show", x.fits(NONE, 2), 1);
        held.due("five times a, then b", x.log(6, 3125, 0), 2);
        held.due("a is on when b comes", x.fits(NONE, 3), 1);
        held.due("four times a, then b, then a", x.log(6, 625, 1), 3);
        held.due("a is off when b comes", x.fits(NONE, 4), 1);
        RelayHut full = Check.hutOf(FIVES);
        int power = 1;
        for (int n = 0; n <= 6; n++, power *= 5) {
            held.due("no acts but zeros of " + n, full.log(n, 0, n % 2), 2 * n);
            held.due("the last digits of " + n, full.log(n, power - 1, n % 2 * 16), 2 * n + 1);
        }
        for (int n = 1; n <= 14; n++) held.due("known by " + n, full.fits(NONE, n), 1);
        held.due("all lamps", full.log(5, 1 * 5 + 2 * 25 + 3 * 125 + 4 * 625, 31), 14);
        held.due("all show", full.fits(NONE, 15), 1);
    }

    private void logRefused() {
        held.sentence("NONE, and nothing happens: 40 are there, no DRAWING, no such n, acts below 0, more digits than n,"
                + " an INPUT or LAMPS that the DRAWING AT HAND has not.");
        refused(h -> { }, 0, 0, 0);
        refused(h -> {
            Check.read(h, ONE);
            for (int i = 0; i < 40; i++) h.log(0, 0, 0);
        }, 0, 0, 0);
        Held.Script five = h -> {
            Check.read(h, FIVES);
            h.log(1, 0, 1);
        };
        for (int n : new int[] {-1, 7, 8, LEAST, MOST}) refused(five, n, 0, 0);
        for (int acts : new int[] {-1, -2, LEAST}) refused(five, 6, acts, 0);
        for (int lamps : new int[] {-1, 32, 33, LEAST, MOST}) refused(five, 0, 0, lamps);
        int power = 1;
        for (int n = 0; n <= 6; n++, power *= 5) {
            refused(five, n, power, 0);
            refused(five, n, MOST, 0);
        }
        Held.Script four = h -> Check.read(h, "key a;key b;key c;key d;lamp l=a;lamp m=a;");
        power = 1;
        for (int i = 0; i < 6; i++, power *= 5) {
            refused(four, 6, 4 * power, 0);
            held.due("digit 3 at " + i, Check.hutOf("key a;key b;key c;key d;lamp l=a;").log(6, 3 * power, 0), 0);
        }
        refused(four, 0, 0, 4);
        held.due("lamps 3 of two", Check.hutOf("key a;lamp l=a;lamp m=a;").log(0, 0, 3), 0);
        Held.Script none = h -> Check.read(h, "relay r=r;");
        refused(none, 1, 0, 0);
        refused(none, 0, 0, 1);
        held.due("no acts, no lamps", Check.hutOf("relay r=r;").log(0, 0, 0), 0);
        held.due("no acts, no lamps of nothing", Check.hutOf("").log(0, 0, 0), 0);
    }

    private void refused(Held.Script script, int n, int acts, int lamps) {
        held.unchanged("log " + n + " " + acts + " " + lamps, NONE, script, h -> h.log(n, acts, lamps));
    }

    private void annul() {
        held.sentence("`int annul(int log)`: A VOID of a LOG: its number. NONE, and nothing happens: 40 are there, no such LOG, a VOID.");
        Held.Script two = h -> {
            Check.read(h, ONE);
            h.log(0, 0, 1);
            h.annul(0);
            h.log(1, 0, 1);
        };
        for (int log : new int[] {-1, 1, 3, 4, 39, 40, LEAST, MOST}) held.unchanged("annul " + log, NONE, two, h -> h.annul(log));
        held.unchanged("annul without logs", NONE, h -> Check.read(h, ONE), h -> h.annul(0));
        held.unchanged("annul without a drawing", NONE, h -> { }, h -> h.annul(0));
        Held.Script full = h -> {
            Check.read(h, ONE);
            for (int i = 0; i < 40; i++) h.log(0, 0, i == 39 ? 1 : 0);
        };
        for (int log : new int[] {0, 39}) held.unchanged("annul " + log + " of 40", NONE, full, h -> h.annul(log));
        RelayHut x = new RelayHut();
        two.on(x);
        held.due("the last one", x.annul(2), 3);
        held.due("the first one, which is void", x.annul(0), 4);
        held.due("its void", x.annul(1), NONE);
        held.due("the last void", x.annul(4), NONE);
        RelayHut last = Check.hutOf(ONE);
        for (int i = 0; i < 39; i++) last.log(0, 0, i == 38 ? 1 : 0);
        held.due("none fits it", last.fits(NONE, 39), 0);
        held.due("the 40th is a void", last.annul(38), 39);
        held.due("known by 40", last.fits(NONE, 40), 1);
    }

    private void fits() {
        held.sentence("`int fits(int f, int n)`: 1 if a FLAW (NONE: none) FITS, as KNOWN by n, else 0; -2: no such FLAW, n.");
        RelayHut x = Check.hutOf(AND);
        x.log(2, 5, 0);
        x.annul(0);
        int[] byOne = {0, 0, 1, 1, 2, 0, 4, 0, 5, 1};
        for (int i = 0; i < byOne.length; i += 2) {
            held.due("flaw " + byOne[i] + " known by 1", x.fits(byOne[i], 1), byOne[i + 1]);
            held.due("flaw " + byOne[i] + " known by 0", x.fits(byOne[i], 0), 1);
            held.due("flaw " + byOne[i] + " known by 2", x.fits(byOne[i], 2), 1);
        }
        held.due("none known by 1", x.fits(NONE, 1), 0);
        for (int n : new int[] {-1, 3, 4, 40, 41, LEAST, MOST}) {
            held.due("none known by " + n, x.fits(NONE, n), -2);
            held.due("flaw 1 known by " + n, x.fits(1, n), -2);
        }
        for (int f : new int[] {-2, 3, 6, 7, 8, 9, 200, 201, LEAST, MOST}) held.due("no flaw " + f, x.fits(f, 1), -2);
        held.due("no such flaw, no such n", x.fits(3, 3), -2);
        held.due("without a drawing", new RelayHut().fits(NONE, 0), -2);
        held.due("without a drawing", new RelayHut().fits(0, 0), -2);
    }

    private void otherInputs() {
        held.sentence("(INPUTS of LOGS that the DRAWING AT HAND has not: their ACTS change nothing.)");
        RelayHut x = Check.hutOf(FIVES);
        x.log(3, 4 + 5 * 1 + 25 * 4, 2);
        x.log(2, 1 + 5 * 2, 2);
        x.log(2, 2 + 5 * 1, 2);
        x.log(1, 2, 0);
        held.due("of five", x.fits(NONE, 4), 0);
        Check.read(x, "key a;key b;lamp l=a;lamp m=b;");
        held.due("of two: e, b, e", x.fits(NONE, 1), 1);
        held.due("b, c", x.fits(NONE, 2), 1);
        held.due("c, b", x.fits(NONE, 3), 1);
        held.due("c", x.fits(NONE, 4), 1);
        Check.read(x, "lamp l=r;lamp m=!r;relay r=r;");
        held.due("of none", x.fits(NONE, 3), 1);
        held.due("r stuck up", x.fits(200, 3), 0);
        held.due("the last log's lamps", x.fits(NONE, 4), 0);
        // a race behind an act that is none here
        Check.read(x, "key a;key b;relay r=b&!r;lamp l=r;");
        held.due("a race behind b", x.fits(NONE, 3), 1);
        held.due("no race by c", x.fits(NONE, 4), 1);
        held.due("no race by c: l welded", x.fits(8, 4), 0);
    }

    private void suspects() {
        held.sentence("`int suspects(int n)`: How many FIT (NONE, too), as KNOWN by n; NONE: no such n, no DRAWING.");
        RelayHut x = Check.hutOf(AND);
        held.due("known by 0", x.suspects(0), 6);
        held.due("known by 1 of none", x.suspects(1), NONE);
        x.log(2, 5, 0);
        x.log(0, 0, 1);
        x.annul(0);
        x.annul(1);
        int[] fit = {6, 2, 0, 0, 6};
        for (int n = 0; n < 5; n++) held.due("known by " + n, x.suspects(n), fit[n]);
        for (int n : new int[] {-1, 5, 6, 40, 41, LEAST, MOST}) held.due("known by " + n, x.suspects(n), NONE);
        held.due("NONE alone", Check.hutOf("key k;").suspects(0), 1);
        for (int n : new int[] {-1, 0, 1}) held.due("without a drawing " + n, new RelayHut().suspects(n), NONE);
    }

    private void next() {
        held.sentence("`int next(int n)`: THE NEXT LOG, as KNOWN by n: 25 * how many ACTS, and its ACTS as in log(); -2: fewer than two FIT;"
                + " NONE: no such n, no DRAWING.");
        RelayHut x = Check.hutOf(AND);
        x.log(1, 0, 0);
        x.log(2, 5, 0);
        x.log(0, 0, 1);
        int[] rows = {25, 55, 0, -2};
        for (int n = 0; n < 4; n++) held.due("known by " + n, x.next(n), rows[n]);
        for (int n : new int[] {-1, 4, 5, 40, 41, LEAST, MOST}) held.due("known by " + n, x.next(n), NONE);
        held.due("two fit", x.suspects(2), 2);
        held.due("one fits", Check.hutOf("key k;").next(0), -2);
        RelayHut one = Check.hutOf(ONE);
        one.log(0, 0, 1);
        held.due("one fits: welded", one.suspects(1), 1);
        held.due("fewer than two", one.next(1), -2);
        held.due("three fit", one.suspects(0), 3);
        held.due("by none and by k: 2 and 1", one.next(0), 0);
        one.annul(0);
        one.log(0, 0, 0);
        held.due("two fit: none and broken", one.suspects(3), 2);
        held.due("by k", one.next(3), 25);
        for (int n : new int[] {-1, 0, 1}) held.due("without a drawing " + n, new RelayHut().next(n), NONE);
    }
}
