/** Each promise of the document, with answers worked out by hand. */
public final class PromiseTest {
    private static final int NONE = -1;
    private static final String LAMP_AND = "key a; key b; lamp l = a & b;";
    private static final String TWO_RELAYS = "key k; relay r = k; relay s = k; green g = !r & !s; never g if k;";
    private static final Check check = new Check("promises");

    public static void main(String[] args) {
        newObject();
        feedAndBack();
        syntaxFaults();
        roomFaults();
        tokenRoom();
        nameFaults();
        readAndPlace();
        drawings();
        contactsAndFlaws();
        settling();
        races();
        showing();
        startsAndReached();
        bad();
        pairs();
        leastTests();
        deepTests();
        racesInTests();
        suite();
        unlike();
        safe();
        plans();
        logs();
        voids();
        fitting();
        nextLog();
        rounds();
        slowRounds();
        clashes();
        handAndCount();
        check.end();
    }

    private static void due(String call, int got, int want) {
        check.due(call, got, want);
    }

    private static void due(String call, boolean got, boolean want) {
        check.due(call, got, want);
    }

    // ==== 1 to 5: the tape and its texts ====

    private static void newObject() {
        RelayHut x = new RelayHut();
        int[] counts = {0, NONE, NONE, NONE, NONE, NONE, NONE, NONE, 0, 0};
        for (int what = 0; what < 10; what++) due("1 count " + what, x.count(what), counts[what]);
        due("1 NONE", RelayHut.NONE, NONE);
        due("5 place ahead of read", x.place(), NONE);
        due("6 use", x.use(0), false);
        due("7 contact", x.contact(0, 0), NONE);
        due("8 flaw", x.flaw(0), NONE);
        due("9 settles", x.settles(NONE, NONE, 0, 0), NONE);
        due("10 shows", x.shows(NONE, NONE, 0, 0), NONE);
        due("11 start", x.start(NONE, NONE), NONE);
        due("12 reached", x.reached(NONE, NONE), NONE);
        due("13 races", x.races(NONE, NONE), NONE);
        due("14 bad", x.bad(NONE, NONE), NONE);
        due("15 badAct", x.badAct(NONE, NONE, 0), NONE);
        due("16 singles", x.singles(), 0);
        due("17 pairs", x.pairs(0), NONE);
        due("18 pair", x.pair(0, 0), NONE);
        due("19 least", x.least(0), NONE);
        due("20 leastAct", x.leastAct(0, 0), NONE);
        due("21 hidden", x.hidden(), 0);
        due("22 suite", x.suite(), 0);
        due("23 suiteAct", x.suiteAct(0, 0), NONE);
        due("24 suiteActs", x.suiteActs(), 0);
        due("25 unlike", x.unlike(0, 0), NONE);
        due("26 safe", x.safe(0, 0, 0), NONE);
        due("27 plan", x.plan(0, 0, 1), NONE);
        due("28 stage", x.stage(0, 0, 1, 0), NONE);
        due("29 log", x.log(0, 0, 0), NONE);
        due("30 annul", x.annul(0), NONE);
        due("31 fits", x.fits(NONE, 0), -2);
        due("32 suspects", x.suspects(0), NONE);
        due("33 next", x.next(0), NONE);
        due("34 set", x.set(0, true), false);
        due("35 strap", x.strap(0, true), false);
        due("36 age", x.age(0, 0), false);
        due("37 round", x.round(), NONE);
        due("38 clash", x.clash(), 0);
        for (int what = 0; what < 5; what++) due("39 hand " + what, x.hand(what), NONE);
    }

    private static void feedAndBack() {
        RelayHut x = new RelayHut();
        due("3 back of nothing", x.back(0), 0);
        due("3 back 1 of nothing", x.back(1), NONE);
        int blank = 0x20202020;
        for (int i = 1; i <= 100; i++) due("2 feed", x.feed(blank, blank, blank, blank, blank), 20 * i);
        due("2 feed beyond 2000", x.feed(blank, blank, blank, blank, blank), NONE);
        due("2 nothing came", x.count(9), 2000);
        due("3 back 2001", x.back(2001), NONE);
        due("3 back -1", x.back(-1), NONE);
        due("3 nothing went", x.count(9), 2000);
        due("3 back 19", x.back(19), 1981);
        due("2 feed to 2001", x.feed(blank, blank, blank, blank, blank), NONE);
        due("3 back 1", x.back(1), 1980);
        due("2 feed to 2000", x.feed(blank, blank, blank, blank, blank), 2000);
        due("4 read of blanks", x.read(), 0);
        due("4 the tape is empty", x.count(9), 0);
        // "key abcd" "efgh" ";lam" "p l=" "abcd", and then "efgh;": the bytes in their order
        x.feed(0x6b657920, 0x61626364, 0x65666768, 0x3b6c616d, 0x70206c3d);
        due("2 feed", x.feed(0x61626364, 0x65666768, 0x3b202020, 0x20202020, 0xffffffff), 40);
        due("3 back", x.back(4), 36);
        due("4 read", x.read(), 0);
        due("7 the contact is the key", x.contact(0, 1), 0);
        due("2 high bytes", x.feed(0xff202020, 0, 0, 0, 0), 20);
        due("4 read", x.read(), 1);
        due("5 place", x.place(), 0);
    }

    private static void fault(String text, int number, int place) {
        RelayHut x = new RelayHut();
        due("4 read of " + text, Check.read(x, text), number);
        due("5 place in " + text, x.place(), place);
        due("4 drawings by " + text, x.count(0), number == 0 ? 1 : 0);
        due("4 tape behind " + text, x.count(9), 0);
    }

    private static void good(String text) {
        fault(text, 0, NONE);
    }

    private static void syntaxFaults() {
        good("");
        good(" \t\r\n ");
        good("key\tk\n;\r");
        good("key abcdefgh;");
        good("relay r slow3=r;");
        good("relay r slow 0009 = r;");
        good("relay r=(r)|(!r&(r|r)&r);");
        good("track keys;lamp l=!keys;");
        good("key z;key zazzz;lamp azzzzzzz=z&zazzz;");
        fault("key", 1, 3);
        fault("key k", 1, 5);
        fault("key k  ", 1, 7);
        fault("key ;", 1, 4);
        fault("key key;", 1, 4);
        fault("key if;", 1, 4);
        fault("key abcdefghi;", 1, 4);
        fault("key k;;", 1, 6);
        fault("key k1;", 1, 5);
        fault("key 1;", 1, 4);
        fault("Key k;", 1, 0);
        fault("key k; \0", 1, 7);
        fault("key k; \u00ff", 1, 7);
        fault("key k.", 1, 5);
        fault("keyk;", 1, 0);
        fault("relayr = r;", 1, 0);
        fault("relay r slow 12345 = r;", 1, 13);
        fault("relay r slow = r;", 1, 13);
        fault("relay r slow r = r;", 1, 13);
        fault("relay r 3 = r;", 1, 8);
        fault("lamp r slow 3 = r;", 1, 7);
        fault("relay r = !!r;", 1, 11);
        fault("relay r = !(r);", 1, 11);
        fault("relay r = (r;", 1, 12);
        fault("relay r = r);", 1, 11);
        fault("relay r = ();", 1, 11);
        fault("relay r = ;", 1, 10);
        fault("relay r = r r;", 1, 12);
        fault("relay r = r & ;", 1, 14);
        fault("relay r = r | & r;", 1, 14);
        fault("relay r = 1;", 1, 10);
        fault("relay r = slow;", 1, 10);
        fault("relay r = r", 1, 11);
        fault("never g = r;", 1, 8);
        fault("never g if;", 1, 10);
        fault("green g if r;", 1, 8);
        fault("(", 1, 0);
    }

    /** The text without its mark #, which stands where the fault of room is due. */
    private static void room(String marked) {
        int place = marked.indexOf('#');
        fault(marked.substring(0, place) + marked.substring(place + 1), 2, place);
    }

    private static String row(String name, int times) {
        return (name + "&").repeat(times - 1) + name;
    }

    private static void roomFaults() {
        String five = "key a;track b;key c;key d;key e;";
        good(five);
        room(five + "#key f;");
        room(five + "#track a;");
        room(five + "#key");
        fault(five + "keys", 1, five.length());
        String six = "relay a=a;relay b=a;relay c=a;relay d=a;relay e=a;relay f=a;";
        good(six);
        room(six + "#relay g=a;");
        String lamps = "key k;lamp a=k;green b=k;lamp c=k;green d=k;lamp e=k;";
        good(lamps);
        room(lamps + "#lamp f=k;");
        room(lamps + "#green f=k;");
        String nevers = lamps + "never b if k;".repeat(6);
        good(nevers);
        room(nevers + "#never b if k;");
        good("key k;relay r=" + row("k", 20) + ";lamp l=" + row("!k", 20) + ";");
        room("key k;relay r=" + row("k", 20) + ";lamp l=" + row("!k", 20) + "&!#k;");
        room("key k;relay r=" + row("k", 40) + ";lamp l=#k;");
        good("key k;relay r=" + row("k", 39) + ";green l=k;never l if " + row("k", 60) + ";");
        good("key k;relay r=((((k))))|(k);");
        room("key k;relay r=((((#(k)))));");
        room("key k;green g=k;never g if k|((((#(k)))));");
        fault("key k;relay r=((((k))))|(k&(k);", 1, 30);
    }

    private static void tokenRoom() {
        // 3 + 5 tokens, then 5 + 1 + 2 * 193
        String ahead = "key k;green g=k;never g if ";
        good(ahead + "!" + row("k", 194) + ";");
        room(ahead + "!" + row("k", 194) + "&#!k;");
        room(ahead + "!k&!" + row("k", 193) + "#;");
        room(ahead + "!" + row("k", 194) + ";#key l;");
        fault(ahead + "!" + row("k", 194) + ";;", 1, (ahead + "!" + row("k", 194) + ";").length());
    }

    private static void nameFaults() {
        good("relay r = s; relay s = r | k; key k;");
        fault("key a; lamp a = a;", 3, 12);
        fault("key a; track a;", 3, 13);
        fault("relay r = r; relay r = r;", 3, 19);
        fault("key k; lamp l = k; green l = k;", 3, 25);
        fault("lamp l = x;", 4, 9);
        fault("lamp l = l;", 4, 9);
        fault("key k; green g = k; lamp l = g;", 4, 29);
        fault("key k; green g = k; never g if x;", 4, 31);
        fault("key k; green g = k; never g if g;", 4, 31);
        fault("key k; never g if k; green g = k;", 4, 13);
        fault("key k; lamp g = k; never g if k;", 4, 25);
        fault("key k; never k if k;", 4, 13);
        good("key k; green g = k; never g if r; relay r = k;");
        fault("relay r slow 10 = r;", 5, 13);
        fault("relay r slow 9999 = x;", 5, 13);
        fault("relay r slow 9 = x; relay q slow 10 = r;", 4, 17);
        fault("lamp l = x; key l; relay r slow 10 = r;", 4, 9);
        fault("key l; lamp l = x; relay r slow 10 = r;", 3, 12);
        // syntax and room first, wherever they stand
        fault("lamp l = x; key", 1, 15);
        fault("relay r slow 10 = ((((((", 2, 22);
        // a name told twice is told all the same
        fault("lamp l = x; lamp x = y; key x; key y; lamp l = x;", 3, 28);
    }

    private static void readAndPlace() {
        RelayHut x = new RelayHut();
        due("4 read", Check.read(x, "key"), 1);
        due("5 place", x.place(), 3);
        due("4 read", Check.read(x, "key a;"), 0);
        due("5 place", x.place(), NONE);
        due("4 read", Check.read(x, "key a; key b;"), 0);
        due("4 read", Check.read(x, "key a; key b; key c;"), 0);
        due("1 at hand", x.count(1), 2);
        due("4 read", Check.read(x, "key a;;"), 1);
        due("4 at hand as ahead", x.count(1), 2);
        due("40 inputs", x.count(2), 3);
        due("4 read", Check.read(x, ""), 0);
        due("1 at hand", x.count(1), 3);
        Check.feed(x, "key a;;");
        due("4 read of a fifth", x.read(), -2);
        due("4 the tape stays", x.count(9), 7);
        due("5 place", x.place(), NONE);
        due("40 drawings", x.count(0), 4);
    }

    // ==== 6 to 8 ====

    private static void drawings() {
        RelayHut x = Check.hutOf("key a;");
        Check.read(x, "key a; key b; relay r = a;");
        x.set(0, true);
        x.round();
        due("6 use of the one at hand", x.use(1), true);
        due("6 changes nothing", x.hand(0) * 10 + x.hand(1), 11);
        due("6 use -1", x.use(-1), false);
        due("6 use 2", x.use(2), false);
        due("6 changes nothing", x.count(1), 1);
        due("6 use 0", x.use(0), true);
        due("40 inputs", x.count(2), 1);
        due("6 use 1", x.use(1), true);
        due("6 all is off", x.hand(0) + x.hand(1), 0);
    }

    private static void contactsAndFlaws() {
        RelayHut x = Check.hutOf("track t; key k; lamp l = !t | r; relay r slow 2 = (k & !r); green g = t; never g if k & t;");
        int[][] contacts = {{10, 0, 1}, {10, 10, 0}, {0, 1, 0}, {0, 10, 1}, {11, 0, 0}};
        for (int k = 0; k < 5; k++)
            for (int what = 0; what < 3; what++) due("7 contact " + k + " " + what, x.contact(k, what), contacts[k][what]);
        due("7 contact 5", x.contact(5, 0), NONE);
        due("7 contact -1", x.contact(-1, 0), NONE);
        due("7 contact 0 3", x.contact(0, 3), NONE);
        due("7 contact 0 -1", x.contact(0, -1), NONE);
        int[] flaws = {0, 1, 2, 4, 5, 8, 9, 10, 12, 13, 16, 17, 200, 201};
        due("40 flaws", x.count(7), flaws.length);
        for (int i = 0; i < flaws.length; i++) due("8 flaw " + i, x.flaw(i), flaws[i]);
        due("8 flaw 14", x.flaw(14), NONE);
        due("8 flaw -1", x.flaw(-1), NONE);
        due("9 no cross between circuits", x.settles(6, NONE, 0, 0), NONE);
        due("9 no cross behind the last", x.settles(18, NONE, 0, 0), NONE);
        RelayHut full = Check.hutOf("key a; key b; relay r = " + row("a", 39) + " & b; ");
        due("9 40 contacts in a row", full.settles(NONE, NONE, 3, 0), 1);
        due("9 the last one is open", full.settles(NONE, NONE, 1, 0), 0);
        due("9 the last ones crossed", full.settles(4 * 38 + 2, NONE, 1, 0), 1);
        due("40 flaws", full.count(7), 40 + 40 + 39 + 2);
        due("8 the last cross", full.flaw(116), 154);
        due("8 the last flaw", full.flaw(120), 201);
        due("9 no flaw 3", x.settles(3, NONE, 0, 0), NONE);
        due("9 no flaw 202", x.settles(202, NONE, 0, 0), NONE);
        due("9 no flaw -2", x.settles(NONE, -2, 0, 0), NONE);
    }

    // ==== 9 to 13 ====

    private static int settles(String text, int inputs, int relays) {
        return Check.hutOf(text).settles(NONE, NONE, inputs, relays);
    }

    private static void settling() {
        String behind = " = k | a & !b; relay b slow 1 = k;";
        due("9 the less slow one drops first", settles("key k; relay a slow 2" + behind, 0, 3), 1);
        due("9 alike slow", settles("key k; relay a slow 1" + behind, 0, 3), -2);
        due("9 slow 0 is quick", settles("key k; relay a slow 0" + behind, 0, 3), 0);
        due("9 without slow is quick", settles("key k; relay a" + behind, 0, 3), 0);
        due("9 coming up is quick", settles("key k; relay a slow 9 = k & (a | b); relay b slow 1 = !k;", 1, 2), 1);
        due("9 coming up against a quick drop", settles("key k; relay a slow 9 = k & (a | b); relay b = !k;", 1, 2), -2);
        due("9 a track", settles("track t; relay r = t; relay s = !t;", 0, 0), 1);
        due("9 a track with a train", settles("track t; relay r = t; relay s = !t;", 1, 0), 2);
        due("9 & ahead of |", settles("key a; key b; key c; relay r = a | b & c;", 1, 0), 1);
        due("9 & ahead of |", settles("key a; key b; key c; relay r = a & b | c;", 4, 0), 1);
        due("9 brackets", settles("key a; key b; key c; relay r = (a | b) & c;", 1, 0), 0);
        due("9 brackets", settles("key a; key b; key c; relay r = a & (b | !(c));", 1, 0), NONE);
        due("9 brackets", settles("key a; key b; key c; relay r = a & (b | (!c));", 1, 0), 1);
        RelayHut x = Check.hutOf("key k; relay r = k; relay s = r;");
        due("9 stuck up is put", x.settles(200, NONE, 0, 0), 3);
        due("9 stuck down is put", x.settles(201, NONE, 1, 3), 0);
        due("9 up ahead of down", x.settles(201, 200, 0, 0), 3);
        due("9 two flaws", x.settles(200, 203, 0, 2), 1);
        due("9 one flaw twice", x.settles(1, 1, 1, 3), 0);
        due("9 welded", x.settles(NONE, 0, 0, 0), 3);
        due("9 welded ahead of broken", x.settles(1, 0, 0, 0), 3);
        due("9 inputs 2", x.settles(NONE, NONE, 2, 0), NONE);
        due("9 inputs -1", x.settles(NONE, NONE, -1, 0), NONE);
        due("9 relays 4", x.settles(NONE, NONE, 0, 4), NONE);
        due("9 relays -1", x.settles(NONE, NONE, 0, -1), NONE);
        due("9 no such flaw, and a race", Check.hutOf("relay a = !a;").settles(3, NONE, 0, 0), NONE);
    }

    private static void races() {
        due("9 without end", settles("relay a = !a;", 0, 0), -2);
        due("9 ends unlike", settles("relay a = !b; relay b = !a;", 0, 0), -2);
        due("9 settled as it is", settles("relay a = !b; relay b = !a;", 0, 1), 1);
        due("9 one end, but a way without end", settles("relay a = !a & !b; relay b = a | !a;", 0, 0), -2);
        due("9 behind the loop", settles("relay a = !a & !b; relay b = a | !a;", 0, 2), 2);
        due("9 ways that meet", settles("relay a = b | !b; relay b = a | !a; relay c = a & b;", 0, 0), 7);
    }

    private static void showing() {
        RelayHut x = Check.hutOf("key a; key b; key c; lamp l = a & b & c; relay r = a; lamp m = r;");
        due("10 shows", x.shows(NONE, NONE, 7, 0), 1);
        due("10 relays as told", x.shows(NONE, NONE, 0, 1), 2);
        due("10 stuck ones as told", x.shows(200, NONE, 0, 0), 0);
        due("10 stuck ones as told", x.shows(201, NONE, 0, 1), 2);
        due("10 crossed", x.shows(2, NONE, 5, 0), 1);
        due("10 crossed", x.shows(2, NONE, 6, 0), 1);
        due("10 crossed", x.shows(2, NONE, 4, 0), 0);
        due("10 crosses don't look at crosses", x.shows(2, 6, 1, 0), 0);
        due("10 crosses don't look at crosses", x.shows(6, 2, 4, 0), 0);
        due("10 two crosses", x.shows(2, 6, 2, 0), 1);
        due("10 welded and broken", x.shows(0, 1, 6, 0), 1);
        due("10 broken and crossed", x.shows(1, 2, 6, 0), 1);
        due("10 broken and crossed", x.shows(1, 2, 5, 0), 0);
        due("10 welded and crossed", x.shows(0, 2, 4, 0), 1);
        due("10 broken", x.shows(NONE, 17, 7, 1), 1);
        due("10 inputs 8", x.shows(NONE, NONE, 8, 0), NONE);
        due("10 relays 2", x.shows(NONE, NONE, 0, 2), NONE);
        due("10 no such flaw", x.shows(10, NONE, 0, 0), NONE);
    }

    private static void startsAndReached() {
        RelayHut x = Check.hutOf("track t; relay r = t & !s; relay s = !r & t;");
        due("11 start", x.start(NONE, NONE), -2);
        due("11 start, stuck", x.start(200, NONE), 1);
        due("11 start, stuck", x.start(201, NONE), 2);
        due("11 no such flaw", x.start(NONE, 204), NONE);
        due("12 reached from a race", x.reached(NONE, NONE), 0);
        due("13 races", x.races(NONE, NONE), 1);
        due("12 reached", x.reached(201, NONE), 2);
        due("13 races", x.races(201, NONE), 0);
        due("12 no such flaw", x.reached(3, NONE), NONE);
        due("13 no such flaw", x.races(NONE, 3), NONE);
        RelayHut y = Check.hutOf("key k; key j; relay a = !a & k;");
        due("12 reached", y.reached(NONE, NONE), 2);
        due("13 races from both", y.races(NONE, NONE), 2);
        due("12 reached with two flaws", y.reached(0, 5), 4);
        RelayHut z = Check.hutOf("key k; key j; relay a = k | a & !j;");
        // a is up with k, and without k until j comes: of 4 * 2 pairs k without a and j alone with a are not
        due("12 a relay that holds itself", z.reached(NONE, NONE), 5);
        due("12 an empty drawing", Check.hutOf("").reached(NONE, NONE), 1);
        due("13 an empty drawing", Check.hutOf("").races(NONE, NONE), 0);
    }

    // ==== 14 to 18 ====

    private static void bad() {
        RelayHut x = Check.hutOf("key a; key b; key c; green g = a & b | b & c; never g if b & a; never g if c;");
        due("14 bad", x.bad(NONE, NONE), 2);
        due("15 badAct", x.badAct(NONE, NONE, 0), 0);
        due("15 badAct", x.badAct(NONE, NONE, 1), 1);
        due("15 badAct 2", x.badAct(NONE, NONE, 2), NONE);
        due("15 badAct -1", x.badAct(NONE, NONE, -1), NONE);
        due("14 a broken", x.bad(1, NONE), 2);
        due("15 a broken", x.badAct(1, NONE, 0), 1);
        due("15 a broken", x.badAct(1, NONE, 1), 2);
        due("14 no such flaw", x.bad(3, NONE), NONE);
        due("15 no such flaw", x.badAct(3, NONE, 0), NONE);
        RelayHut t = Check.hutOf("track t; green g = t; never g if t;");
        due("14 bad at the start", t.bad(NONE, NONE), 0);
        due("15 no acts", t.badAct(NONE, NONE, 0), NONE);
        RelayHut r = Check.hutOf("key k; relay r = k; green g = !k; never g if r;");
        due("14 not bad", r.bad(NONE, NONE), -2);
        due("15 not bad", r.badAct(NONE, NONE, 0), NONE);
        due("14 relays as they are", r.bad(200, NONE), 0);
        due("14 relays as they are", r.bad(0, NONE), 0);
        RelayHut race = Check.hutOf("key k; relay r = k & !r; green g = k; never g if k;");
        due("14 behind a race nothing is reached", race.bad(NONE, NONE), -2);
        due("14 without the race", race.bad(5, NONE), 1);
        due("14 stuck without the race", race.bad(201, NONE), 1);
        RelayHut lamps = Check.hutOf("key k; green g = k; green h = !k; never g if !k; never h if k;");
        due("14 its own nevers", lamps.bad(NONE, NONE), -2);
        due("14 welded", lamps.bad(0, NONE), 0);
        due("14 welded", lamps.bad(4, NONE), 1);
        RelayHut twice = Check.hutOf("key k; key j; green g = !k | k & j; never g if !k; never g if j;");
        due("12 all is reached", twice.reached(NONE, NONE), 4);
        due("14 wrong at the start, and again", twice.bad(NONE, NONE), 0);
    }

    private static void pairs() {
        RelayHut x = Check.hutOf(TWO_RELAYS);
        due("16 singles", x.singles(), 0);
        int[][] partners = {{1, 5, 10, 12, 203}, {10, 1, 5, 8, 12, 201, 203}, {201, 5, 10, 12, 203}, {0}, {9}, {202}};
        for (int[] p : partners) {
            due("17 pairs " + p[0], x.pairs(p[0]), p.length - 1);
            for (int i = 1; i < p.length; i++) due("18 pair " + p[0] + " " + (i - 1), x.pair(p[0], i - 1), p[i]);
            due("18 pair " + p[0] + " at its end", x.pair(p[0], p.length - 1), NONE);
        }
        due("17 no such flaw", x.pairs(2), NONE);
        due("17 NONE is no flaw", x.pairs(NONE), NONE);
        due("18 no such flaw", x.pair(2, 0), NONE);
        due("18 pair -1", x.pair(1, -1), NONE);
        RelayHut y = Check.hutOf("key k; relay r = !k; relay s = !k; green g = r & s; never g if k;");
        int[] ofFirst = {4, 10, 12, 202};
        due("17 pairs 0", y.pairs(0), 4);
        for (int i = 0; i < 4; i++) due("18 pair 0 " + i, y.pair(0, i), ofFirst[i]);
        due("17 pairs 4", y.pairs(4), 4);
        due("18 pair 4 0", y.pair(4, 0), 0);
        due("18 pair 202 3", y.pair(202, 3), 200);
        RelayHut one = Check.hutOf("key k; relay r = k; green g = !r; never g if k;");
        // broken k, welded !r, r stuck down
        due("16 singles", one.singles(), 3);
        due("17 bad alone", one.pairs(1), 0);
        due("18 bad alone", one.pair(1, 0), NONE);
        due("17 with bad ones", one.pairs(0), 0);
    }

    // ==== 19 to 24 ====

    private static void leastTests() {
        RelayHut x = Check.hutOf(LAMP_AND);
        int[][] tests = {{0, 1}, {1, 0, 1}, {2, 0}, {4, 0}, {5, 0, 1}};
        for (int[] t : tests) {
            due("19 least " + t[0], x.least(t[0]), t.length - 1);
            for (int i = 1; i < t.length; i++) due("20 leastAct " + t[0] + " " + (i - 1), x.leastAct(t[0], i - 1), t[i]);
            due("20 leastAct " + t[0] + " at its end", x.leastAct(t[0], t.length - 1), NONE);
        }
        due("20 leastAct -1", x.leastAct(1, -1), NONE);
        due("19 no such flaw", x.least(3), NONE);
        due("19 NONE", x.least(NONE), NONE);
        due("20 no such flaw", x.leastAct(3, 0), NONE);
        due("21 hidden", x.hidden(), 0);
        RelayHut y = Check.hutOf(TWO_RELAYS);
        for (int f : new int[] {1, 5, 8, 10, 12, 201, 203}) {
            due("19 hidden " + f, y.least(f), -2);
            due("20 hidden " + f, y.leastAct(f, 0), NONE);
        }
        due("19 seen at the start", y.least(0), 0);
        due("21 hidden", y.hidden(), 7);
    }

    /** Counts a's changes by three relays of two, so that a lamp's first light may come late. */
    static String counter(String lamp) {
        return "key a; relay m = a & !s | !a & m; relay s = a & s | !a & m;"
                + "relay mm = s & !ss | !s & mm; relay ss = s & ss | !s & mm;"
                + "relay mmm = ss & !sss | !ss & mmm; relay sss = ss & sss | !ss & mmm; lamp l = " + lamp + ";";
    }

    private static void deepTests() {
        RelayHut eight = Check.hutOf(counter("sss"));
        due("19 8 acts", eight.least(97), 8);
        RelayHut twelve = Check.hutOf(counter("sss & ss"));
        due("19 12 acts", twelve.least(101), 12);
        for (int i = 0; i < 12; i++) due("20 act " + i, twelve.leastAct(101, i), 0);
        due("20 act 12", twelve.leastAct(101, 12), NONE);
        RelayHut thirteen = Check.hutOf(counter("sss & ss & m"));
        due("19 13 acts", thirteen.least(105), -2);
        due("12 but reached", thirteen.reached(NONE, NONE), 16);
    }

    private static void racesInTests() {
        RelayHut both = Check.hutOf("key k; relay a = !a; lamp l = k;");
        due("19 both in a race at the start", both.least(4), -2);
        due("19 one in a race at the start", both.least(0), 0);
        RelayHut x = Check.hutOf("key k; key j; relay a = k & !a; lamp l = j & k;");
        due("19 one in a race", x.least(1), 1);
        due("20 one in a race", x.leastAct(1, 0), 0);
        due("19 lamps", x.least(12), 1);
        due("20 lamps", x.leastAct(12, 0), 1);
        // with j broken only j and k show it, and k is a race of both
        due("19 only behind a race of both", x.least(9), -2);
        due("21 hidden", x.hidden(), 3);
    }

    private static void suite() {
        RelayHut x = Check.hutOf(LAMP_AND);
        due("22 suite", x.suite(), 2);
        due("24 suiteActs", x.suiteActs(), 3);
        due("23 suiteAct 0 0", x.suiteAct(0, 0), 1);
        due("23 suiteAct 0 1", x.suiteAct(0, 1), NONE);
        due("23 suiteAct 1 0", x.suiteAct(1, 0), 0);
        due("23 suiteAct 1 1", x.suiteAct(1, 1), 1);
        due("23 suiteAct 1 2", x.suiteAct(1, 2), NONE);
        due("23 suiteAct 1 -1", x.suiteAct(1, -1), NONE);
        due("23 suiteAct 2 0", x.suiteAct(2, 0), NONE);
        due("23 suiteAct -1 0", x.suiteAct(-1, 0), NONE);
        RelayHut y = Check.hutOf(TWO_RELAYS);
        due("22 one test without acts", y.suite(), 1);
        due("24 without acts", y.suiteActs(), 0);
        due("23 without acts", y.suiteAct(0, 0), NONE);
        RelayHut none = Check.hutOf("key k; relay r = k;");
        due("22 all hidden", none.suite(), 0);
        due("21 all hidden", none.hidden(), 4);
        Check.read(none, LAMP_AND);
        due("22 of the one at hand", none.suite(), 2);
        none.use(0);
        due("22 of the one at hand", none.suite(), 0);
    }

    // ==== 25 to 28 ====

    private static int unlikeOf(String a, String b) {
        RelayHut x = Check.hutOf(a);
        Check.read(x, b);
        int there = x.unlike(0, 1);
        due("25 unlike to and fro", x.unlike(1, 0), there);
        return there;
    }

    private static void unlike() {
        String a = "key k; track t; relay r slow 1 = k; relay s = k & t; lamp l = r; green g = s; never g if t;";
        due("25 the same", unlikeOf(a, a), 0);
        due("25 blanks and nevers", unlikeOf(a, a.replace(" = ", "=").replace("never g if t;", "")), 0);
        due("25 relays", unlikeOf(a, a.replace("s = k & t", "s = t & k")), 2);
        due("25 brackets", unlikeOf(a, a.replace("= k;", "= (k);")), 1);
        due("25 lamps", unlikeOf(a, a.replace("l = r", "l = !r").replace("g = s", "g = s & s")), 192);
        due("25 all", unlikeOf(a, a.replace(" = ", " = t & ")), 195);
        due("25 slow", unlikeOf(a, a.replace("slow 1", "slow 2")), -2);
        due("25 slow 0 is as without", unlikeOf(a, a.replace("relay s", "relay s slow 0")), 0);
        due("25 a key for a track", unlikeOf(a, a.replace("track", "key")), -2);
        due("25 a lamp for a green", unlikeOf(a, a.replace("lamp", "green")), -2);
        due("25 a name", unlikeOf("key k;", "key l;"), -2);
        due("25 one more", unlikeOf("key k;", "key k; key l;"), -2);
        due("25 other numbers", unlikeOf("key k; key l;", "key l; key k;"), -2);
        due("25 other order, same numbers", unlikeOf("key k; lamp l = k;", "lamp l = k; key k;"), 0);
        RelayHut x = Check.hutOf("");
        due("25 with itself", x.unlike(0, 0), 0);
        due("25 no such one", x.unlike(0, 1), NONE);
        due("25 no such one", x.unlike(-1, 0), NONE);
    }

    private static void safe() {
        RelayHut x = Check.hutOf("key k; relay r = k; green g = r & k; never g if !k;");
        Check.read(x, "key k; relay r = !k; green g = !r & k; never g if r;");
        Check.read(x, "key k; relay r = !r; green g = r & k; never g if !k;");
        Check.read(x, "key k; key j;");
        due("26 the other one's nevers", x.safe(0, 1, 0), 0);
        due("26 all", x.safe(0, 1, 65), 1);
        due("26 some", x.safe(0, 1, 1), 1);
        due("26 the other one's nevers", x.safe(1, 0, 0), 1);
        due("26 with itself", x.safe(0, 0, 0), 1);
        due("26 a race at the start", x.safe(0, 2, 1), 0);
        due("26 none of it", x.safe(0, 2, 0), 1);
        due("26 no such in the set", x.safe(0, 2, 64), NONE);
        due("26 no such in the set", x.safe(0, 1, -1), NONE);
        due("26 no such in the set", x.safe(0, 1, 128), NONE);
        due("26 not the same inputs", x.safe(0, 3, 0), -2);
        due("26 not the same, whatever the set", x.safe(3, 0, -1), -2);
        due("26 no such drawing", x.safe(0, 4, 0), NONE);
        due("26 no such drawing", x.safe(-1, 0, 0), NONE);
        RelayHut y = Check.hutOf("key k; relay r = k;");
        Check.read(y, "key k; relay r = k & !r;");
        due("26 a race behind an act", y.safe(0, 1, 1), 0);
        due("26 without it", y.safe(1, 0, 1), 1);
    }

    private static void stages(RelayHut x, int a, int b, int k, int... sets) {
        due("27 plan " + a + " " + b + " " + k, x.plan(a, b, k), sets.length);
        for (int i = 0; i < sets.length; i++) due("28 stage " + i + " with " + k, x.stage(a, b, k, i), sets[i]);
        due("28 stage at the end with " + k, x.stage(a, b, k, sets.length), NONE);
        due("28 stage -1 with " + k, x.stage(a, b, k, -1), NONE);
    }

    private static void plans() {
        RelayHut x = Check.hutOf("key k; relay r = k; relay s = k; green g = r; never g if !k;");
        Check.read(x, "key k; relay r = !k; relay s = k; green g = s; never g if !k;");
        Check.read(x, "key k; relay r = k & k; relay s = k | k; green g = s; never g if !k;");
        Check.read(x, "key k; relay r = k; relay s = k; green g = !k; never g if !k;");
        // with r changed first the green lamp shows without k
        stages(x, 0, 1, 1, 64, 65);
        stages(x, 0, 1, 2, 65);
        stages(x, 1, 0, 1, 1, 65);
        stages(x, 0, 2, 1, 1, 3, 67);
        stages(x, 0, 2, 2, 1, 67);
        stages(x, 0, 2, 3, 67);
        stages(x, 0, 2, 7, 67);
        stages(x, 0, 0, 1);
        due("27 all is not safe", x.plan(0, 3, 1), -2);
        due("28 no plan", x.stage(0, 3, 1, 0), NONE);
        due("27 none is not safe", x.plan(3, 0, 1), -2);
        due("27 none unlike, but not safe", x.plan(3, 3, 1), -2);
        due("27 k 0", x.plan(0, 2, 0), NONE);
        due("27 k 8", x.plan(0, 2, 8), NONE);
        due("27 no such drawing", x.plan(0, 4, 1), NONE);
        due("28 no such drawing", x.stage(0, 4, 1, 0), NONE);
        due("28 k 8", x.stage(0, 2, 8, 0), NONE);
        String many = "key k;relay a=k;relay b=k;relay c=k;relay d=k;relay e=k;relay f=k;lamp g=k;lamp h=k;";
        RelayHut y = Check.hutOf(many);
        Check.read(y, many.replace("=k", "=!k"));
        Check.read(y, many.replace("=k", "=!k").replace("h=!k", "h=k"));
        Check.read(y, "key k;");
        due("27 8 unlike", y.plan(0, 1, 7), -3);
        due("28 8 unlike", y.stage(0, 1, 7, 0), NONE);
        due("27 8 unlike, k 8", y.plan(0, 1, 8), NONE);
        stages(y, 0, 2, 7, 127);
        stages(y, 0, 2, 4, 7, 127);
        stages(y, 0, 2, 1, 1, 3, 7, 15, 31, 63, 127);
        due("27 not the same", y.plan(0, 3, 1), -2);
        due("27 not the same, k 0", y.plan(0, 3, 0), NONE);
        due("28 not the same", y.stage(0, 3, 1, 0), NONE);
    }

    // ==== 29 to 33 ====

    private static void logs() {
        RelayHut x = Check.hutOf("key a; key b; lamp l = a; lamp m = b;");
        due("29 log", x.log(0, 0, 3), 0);
        due("29 acts 0 with 6", x.log(6, 0, 0), 1);
        due("29 digits", x.log(3, 1 + 5 + 25, 0), 2);
        due("29 more digits", x.log(2, 25, 0), NONE);
        due("29 more digits", x.log(0, 1, 0), NONE);
        due("29 no such input", x.log(2, 10, 0), NONE);
        due("29 no such input", x.log(6, 2, 0), NONE);
        due("29 n 7", x.log(7, 0, 0), NONE);
        due("29 n -1", x.log(-1, 0, 0), NONE);
        due("29 acts -1", x.log(2, -1, 0), NONE);
        due("29 lamps 4", x.log(1, 0, 4), NONE);
        due("29 lamps -1", x.log(1, 0, -1), NONE);
        due("29 great acts", x.log(6, Integer.MAX_VALUE, 0), NONE);
        due("29 nothing happened", x.count(8), 3);
        Check.read(x, "lamp l = r; relay r = r;");
        due("4 logs stay", x.count(8), 3);
        due("29 no inputs", x.log(1, 0, 0), NONE);
        due("29 no acts", x.log(0, 0, 1), 3);
        for (int i = 4; i < 40; i++) due("29 log " + i, x.log(0, 0, 0), i);
        due("29 40 are there", x.log(0, 0, 0), NONE);
        due("30 40 are there", x.annul(0), NONE);
        due("40 logs", x.count(8), 40);
    }

    private static void voids() {
        RelayHut x = Check.hutOf("key a; lamp l = a;");
        due("30 no such log", x.annul(0), NONE);
        x.log(0, 0, 1);
        due("30 annul", x.annul(0), 1);
        due("30 a void", x.annul(1), NONE);
        due("30 no such log", x.annul(2), NONE);
        due("30 no such log", x.annul(-1), NONE);
        due("30 once more", x.annul(0), 2);
        due("29 log", x.log(1, 0, 1), 3);
        due("31 known by 1", x.fits(NONE, 1), 0);
        due("31 known by 2", x.fits(NONE, 2), 1);
        due("31 known by 4", x.fits(NONE, 4), 1);
        due("31 welded, known by 1", x.fits(0, 1), 1);
        due("31 broken, known by 4", x.fits(1, 4), 0);
    }

    private static void fitting() {
        RelayHut x = Check.hutOf("key a; key b; relay r = a & !r & b; lamp l = a;");
        x.log(1, 0, 1);
        x.log(3, 5, 0);
        due("31 none", x.fits(NONE, 1), 1);
        due("31 a broken", x.fits(13, 1), 0);
        due("31 no log known", x.fits(13, 0), 1);
        due("31 a race on the way fits", x.fits(NONE, 2), 1);
        // !r broken: no race any more, and behind a, b, a the lamp is off
        due("31 without the race", x.fits(5, 2), 1);
        due("31 n 3", x.fits(NONE, 3), -2);
        due("31 n -1", x.fits(NONE, -1), -2);
        due("31 no such flaw", x.fits(3, 2), -2);
        due("31 no such flaw", x.fits(-2, 2), -2);
        due("32 n 3", x.suspects(3), NONE);
        due("32 n -1", x.suspects(-1), NONE);
        due("33 n 3", x.next(3), NONE);
        Check.read(x, "key a; lamp l = !a | a & a;");
        // acts of b change nothing here: behind a, b, a the lamp is on, but off was seen
        due("31 other inputs", x.fits(NONE, 1), 1);
        due("31 other inputs", x.fits(NONE, 2), 0);
        x.log(0, 0, 1);
        x.annul(1);
        // not those with a contact broken
        due("32 suspects", x.suspects(4), 6);
        Check.read(x, "relay r = !r;");
        due("31 a race at the start", x.fits(NONE, 2), 1);
        due("31 another lamp", x.fits(200, 2), 0);
        due("32 in a race", x.suspects(2), 1);
        due("33 fewer than two", x.next(2), -2);
    }

    private static void nextLog() {
        RelayHut x = Check.hutOf(LAMP_AND);
        due("32 suspects", x.suspects(0), 6);
        due("33 next", x.next(0), 25);
        x.log(1, 0, 0);
        due("32 suspects", x.suspects(1), 4);
        due("33 next: a, then b", x.next(1), 55);
        due("33 next by 0", x.next(0), 25);
        x.log(2, 5, 0);
        due("32 suspects", x.suspects(2), 2);
        due("33 all rows alike", x.next(2), 0);
        x.log(0, 0, 1);
        due("32 suspects", x.suspects(3), 0);
        due("33 none fits", x.next(3), -2);
        due("33 n 4", x.next(4), NONE);
        due("33 n -1", x.next(-1), NONE);
        RelayHut y = Check.hutOf("key a; key b; key c; key d; key e; lamp l = d & e & c;");
        y.log(1, 4, 0);
        y.log(2, 3 + 20, 0);
        y.log(2, 2 + 20, 0);
        // none, e welded, the three broken: with d and e dark c is not welded, with c and e dark d is not
        due("32 suspects", y.suspects(3), 5);
        due("33 c and d part e welded from the others, as d and c do", y.next(3), 50 + 2 + 15);
        RelayHut last = Check.hutOf("key a; key b; key c; key d; key e; lamp l = e & e;");
        due("33 the last input", last.next(0), 25 + 4);
        RelayHut two = Check.hutOf("key a; key b; key c; key d; key e; lamp l = e & d;");
        two.log(1, 4, 0);
        due("33 the last two", two.next(1), 50 + 3 + 20);
        RelayHut none = Check.hutOf("lamp l = r; relay r = r;");
        due("33 without inputs", none.next(0), 0);
        RelayHut race = Check.hutOf("key a; relay r = a & !r; lamp l = r;");
        // behind a: a race of NONE, a welded and the lamp's three: a welded races at the start, too
        due("32 suspects", race.suspects(0), 10);
        due("33 races are alike", race.next(0), 25);
    }

    // ==== 34 to 40 ====

    private static void rounds() {
        RelayHut x = Check.hutOf("key k; track t; relay r = k & t; relay s = r; green g = s; lamp h = !k; never g if !t;");
        due("39 lamps", x.hand(2), 2);
        due("34 set", x.set(0, true), true);
        due("34 set -1", x.set(-1, true), false);
        due("34 set 2", x.set(2, true), false);
        due("39 inputs", x.hand(0), 1);
        due("37 round", x.round(), 1);
        due("39 relays", x.hand(1), 1);
        due("37 all look at once", x.round(), 2);
        due("39 lamps", x.hand(2), 1);
        due("39 not wrong", x.hand(4), 0);
        x.set(1, true);
        due("39 wrong ahead of the round", x.hand(4), 1);
        due("37 round", x.round(), 1);
        due("35 strap", x.strap(2, true), true);
        due("35 strap -1", x.strap(-1, true), false);
        due("35 strap 5", x.strap(5, true), false);
        due("35 strap 0", x.strap(0, true) && x.strap(0, false), true);
        due("39 straps", x.hand(3), 1);
        due("37 a strap holds s", x.round(), 0);
        due("39 wrong", x.hand(4), 1);
        due("34 off again", x.set(1, false), true);
        due("39 inputs", x.hand(0), 1);
        due("39 not wrong", x.hand(4), 0);
        x.strap(2, false);
        due("39 straps", x.hand(3), 0);
        x.strap(4, true);
        x.strap(4, true);
        due("39 one strap", x.hand(3), 1);
        due("39 a strap on a lamp's contact", x.hand(2), 3);
        due("37 r comes up, s drops", x.round(), 3);
        due("39 what 5", x.hand(5), NONE);
        due("39 what -1", x.hand(-1), NONE);
        Check.read(x, "key k;;");
        due("4 a fault changes nothing", x.hand(3), 1);
        Check.read(x, "key k; relay r = k;");
        due("39 another one at hand", x.hand(0) + x.hand(1) + x.hand(3), 0);
    }

    private static void slowRounds() {
        RelayHut x = Check.hutOf("key k; relay r slow 2 = k; relay s = k;");
        x.set(0, true);
        due("37 up at once", x.round(), 3);
        x.set(0, false);
        due("37 s drops", x.round(), 2);
        x.set(0, true);
        due("37 s comes up, r waits no more", x.round(), 2);
        x.set(0, false);
        due("37 first", x.round(), 2);
        due("37 second", x.round(), 0);
        due("37 third", x.round(), 1);
        due("36 age", x.age(0, 9), true);
        due("36 age", x.age(1, 1), true);
        due("36 age 10", x.age(1, 10), false);
        due("36 age -1", x.age(1, -1), false);
        due("36 age 0", x.age(1, 0), true);
        due("36 age", x.age(1, 1), true);
        due("36 relay 2", x.age(2, 0), false);
        due("36 relay -1", x.age(-1, 0), false);
        x.set(0, true);
        due("37 up at once", x.round(), 3);
        x.set(0, false);
        due("37 s is old", x.round(), 0);
        due("37 s drops", x.round(), 2);
        for (int i = 2; i < 11; i++) due("37 r waits " + i, x.round(), 0);
        due("37 r drops behind 11", x.round(), 1);
        x.set(0, true);
        x.round();
        x.set(0, false);
        for (int i = 0; i < 5; i++) x.round();
        x.age(0, 2);
        due("37 it waited long enough for its new age", x.round(), 1);
        x.set(0, true);
        x.round();
        x.set(0, false);
        x.round();
        Check.read(x, "key k; relay r slow 1 = k;");
        x.use(0);
        due("37 no round was", x.round(), 0);
        x.set(0, true);
        x.round();
        x.set(0, false);
        due("37 ages are 0 again", x.round(), 2);
        due("37 second", x.round(), 0);
        due("37 third", x.round(), 1);
    }

    private static void clashes() {
        RelayHut x = Check.hutOf("key k; relay r = k; relay s = k & (t | !t); relay t = s & s; relay u = u & k | k;");
        due("38 no round", x.clash(), 0);
        x.set(0, true);
        // r, s and u come up: t, which is in s, doesn't, and u is in its own
        due("37 round", x.round(), 11);
        due("38 no clash", x.clash(), 0);
        due("37 round", x.round(), 4);
        due("38 one alone", x.clash(), 0);
        x.set(0, false);
        due("37 round", x.round(), 11);
        due("38 no clash", x.clash(), 0);
        x.set(0, true);
        due("37 t drops, s comes up", x.round(), 15);
        due("38 clash", x.clash(), 1);
        due("37 t comes up", x.round(), 4);
        due("38 of the last round", x.clash(), 0);
        x.set(0, false);
        x.round();
        x.set(0, true);
        x.round();
        due("38 clash", x.clash(), 1);
        x.use(0);
        due("38 use of the one at hand", x.clash(), 1);
        Check.read(x, "");
        due("38 another one at hand", x.clash(), 0);
        due("37 a round of nothing", x.round(), 0);
        due("37 flips", Check.hutOf("relay a = !a;").round(), 1);
        RelayHut first = Check.hutOf("key k; relay r = s | k; relay s = k;");
        first.set(0, true);
        due("37 both", first.round(), 3);
        due("38 by contact 0", first.clash(), 1);
    }

    private static void handAndCount() {
        RelayHut x = Check.hutOf("key a; track b; relay r = a; lamp l = r & !b; green g = a; lamp m = a; never g if b; never g if a;");
        int[] counts = {1, 0, 2, 1, 3, 5, 2, 13, 0, 0};
        for (int what = 0; what < 10; what++) due("40 count " + what, x.count(what), counts[what]);
        due("40 count 10", x.count(10), NONE);
        due("40 count -1", x.count(-1), NONE);
        x.feed(0, 0, 0, 0, 0);
        x.log(0, 0, 0);
        x.annul(0);
        due("40 logs and voids", x.count(8), 2);
        due("40 tape", x.count(9), 20);
        due("39 not wrong", x.hand(4), 0);
        x.set(0, true);
        due("39 wrong by its second never", x.hand(4), 1);
        x.set(0, false);
        x.strap(3, true);
        due("39 wrong by a strap: b is clear", x.hand(4), 1);
        x.set(1, true);
        due("39 not wrong with a train", x.hand(4), 0);
    }
}
