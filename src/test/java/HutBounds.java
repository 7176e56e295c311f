/** The boundaries of "II.": contacts, flaws, where huts settle, what they reach; and what of it is wrong and BAD. */
final class HutBounds {
    private static final int NONE = -1;
    private static final int LEAST = Integer.MIN_VALUE;
    private static final int MOST = Integer.MAX_VALUE;
    private final Held held;

    /** A call with two flaws. */
    private interface OfFlaws {
        int on(RelayHut hut, int f, int g);
    }

    private HutBounds(Held held) {
        this.held = held;
    }

    static void run(Held held) {
        HutBounds b = new HutBounds(held);
        b.sets();
        b.contacts();
        b.circuits();
        b.contactFlaws();
        b.relayFlaws();
        b.twoFlaws();
        b.due();
        b.quick();
        b.settled();
        b.started();
        b.acts();
        b.wrong();
        b.fewestActs();
        b.settles();
        b.shows();
        b.start();
        b.reached();
        b.races();
        b.bad();
        b.badAct();
    }

    private static int settled(String text, int inputs, int relays) {
        return Check.hutOf(text).settles(NONE, NONE, inputs, relays);
    }

    // ==== contacts ====

    private void sets() {
        held.sentence("==== II. INPUTS are on (a key is turned, a train stands on a track) or off, RELAYS up or down; sets are bits.");
        String keys = "key a;key b;key c;key d;key e;";
        RelayHut x = Check.hutOf(keys + "relay q=a;relay r=b;relay s=c;relay t=d;relay u=e;relay v=a&b&c&d&e;");
        for (int inputs = 0; inputs < 32; inputs++) {
            held.due("inputs " + inputs, x.settles(NONE, NONE, inputs, 0), inputs + (inputs == 31 ? 32 : 0));
            held.due("inputs " + inputs + " from all up", x.settles(NONE, NONE, inputs, 63), inputs + (inputs == 31 ? 32 : 0));
        }
        RelayHut y = Check.hutOf(keys + "lamp p=a;lamp q=b;lamp r=c;lamp s=d;lamp t=e;");
        for (int inputs = 0; inputs < 32; inputs++) held.due("lamps of " + inputs, y.shows(NONE, NONE, inputs, 0), inputs);
        RelayHut z = Check.hutOf("relay p=p;relay q=q;relay r=r;relay s=s;relay t=t;relay u=u;");
        for (int relays = 0; relays < 64; relays++) held.due("relays " + relays, z.settles(NONE, NONE, 0, relays), relays);
    }

    private void contacts() {
        held.sentence("By NAME a contact of a key is closed if it is on, of a track if it is off (its current is broken by a train),"
                + " of a RELAY if it is up; with ! the other way round.");
        RelayHut x = Check.hutOf("key k;track t;relay r=r;lamp a=k;lamp b=!k;lamp c=t;lamp d=!t;lamp e=r;");
        RelayHut y = Check.hutOf("key k;track t;relay r=r;lamp a=!r;");
        for (int inputs = 0; inputs < 4; inputs++) {
            for (int relays = 0; relays < 2; relays++) {
                int lamps = ((inputs & 1) != 0 ? 1 : 2) + ((inputs & 2) == 0 ? 4 : 8) + 16 * relays;
                held.due("inputs " + inputs + " relays " + relays, x.shows(NONE, NONE, inputs, relays), lamps);
                held.due("with !, inputs " + inputs + " relays " + relays, y.shows(NONE, NONE, inputs, relays), 1 - relays);
            }
        }
        String green = "key k;track t;relay r=k;green g=k|!k;never g if ";
        held.due("a track in a never, at the start", Check.hutOf(green + "t;").bad(NONE, NONE), 0);
        held.due("a track in a never with !", Check.hutOf(green + "!t;").badAct(NONE, NONE, 0), 1);
        held.due("a key in a never", Check.hutOf(green + "k;").badAct(NONE, NONE, 0), 0);
        held.due("a key in a never with !", Check.hutOf(green + "!k;").bad(NONE, NONE), 0);
        held.due("a relay in a never", Check.hutOf(green + "r;").badAct(NONE, NONE, 0), 0);
        held.due("a relay in a never with !", Check.hutOf(green + "!r;").bad(NONE, NONE), 0);
    }

    private void circuits() {
        held.sentence("& is closed if all are, | if one is.");
        RelayHut x = Check.hutOf("key a;key b;key c;lamp m=a&b&c;lamp n=a|b|c;lamp o=a|b&c;lamp p=a&b|c;lamp q=a&(b|c);");
        RelayHut y = Check.hutOf("key a;key b;key c;lamp m=(a|b)&c;lamp n=!a&!b|!(c);".replace("!(c)", "(!c)")
                + "lamp o=((a&(b|(c))));lamp p=(a|(b&(c|!a)))&!b|b&c;lamp q=a&b|b&c|c&a;");
        for (int i = 0; i < 8; i++) {
            boolean a = (i & 1) != 0;
            boolean b = (i & 2) != 0;
            boolean c = (i & 4) != 0;
            int first = (a && b && c ? 1 : 0) + (a || b || c ? 2 : 0) + (a || b && c ? 4 : 0) + (a && b || c ? 8 : 0) + (a && (b || c) ? 16 : 0);
            int second = ((a || b) && c ? 1 : 0) + (!a && !b || !c ? 2 : 0) + (a && (b || c) ? 4 : 0)
                    + ((a || b && (c || !a)) && !b || b && c ? 8 : 0) + (a && b || b && c || c && a ? 16 : 0);
            held.due("circuits by " + i, x.shows(NONE, NONE, i, 0), first);
            held.due("more circuits by " + i, y.shows(NONE, NONE, i, 0), second);
        }
        brackets();
    }

    /** Circuits in four brackets within one another, with contacts ahead of each and behind each. */
    private void brackets() {
        String keys = "key a;key b;key c;key d;key e;";
        RelayHut x = Check.hutOf(keys + "lamp m=a|(b&(c|(d&(e|!a))));lamp n=((((a|b)&c)|d)&e);lamp o=a&(b|(!c&(d|(e&!b)|a)&e)|!d)|c;"
                + "lamp p=!a&(b|c&(d|e&(!c|d&(a|e)|b)))|(d&!e);");
        for (int i = 0; i < 32; i++) {
            boolean a = (i & 1) != 0;
            boolean b = (i & 2) != 0;
            boolean c = (i & 4) != 0;
            boolean d = (i & 8) != 0;
            boolean e = (i & 16) != 0;
            boolean m = a | b & (c | d & (e | !a));
            boolean n = ((a | b) & c | d) & e;
            boolean o = a & (b | !c & (d | e & !b | a) & e | !d) | c;
            boolean p = !a & (b | c & (d | e & (!c | d & (a | e) | b))) | d & !e;
            held.due("in brackets by " + i, x.shows(NONE, NONE, i, 0), (m ? 1 : 0) + (n ? 2 : 0) + (o ? 4 : 0) + (p ? 8 : 0));
        }
    }

    // ==== flaws ====

    private static String forty(String sign) {
        return "key a;key b;lamp l=" + ("a" + sign).repeat(39) + "a;";
    }

    private void contactFlaws() {
        held.sentence("FLAWS: 4 * k: CONTACT k is WELDED (closed), 4 * k + 1: it is BROKEN (open),"
                + " 4 * k + 2: CROSSED with CONTACT k + 1, if that is of the same C (both are closed if one of them is);");
        RelayHut all = Check.hutOf(forty("&"));
        RelayHut one = Check.hutOf(forty("|"));
        for (int k = 0; k < 40; k++) {
            held.due("welded " + k, one.shows(4 * k, NONE, 0, 0), 1);
            held.due("broken " + k, all.shows(4 * k + 1, NONE, 1, 0), 0);
            // contact k is b's, the others are a's
            RelayHut x = Check.hutOf("key a;key b;lamp l=" + "a&".repeat(k) + "b" + "&a".repeat(39 - k) + ";");
            held.due("open " + k, x.shows(NONE, NONE, 1, 0), 0);
            if (k < 39) held.due("crossed with the next one " + k, x.shows(4 * k + 2, NONE, 1, 0), 1);
            if (k > 0) held.due("crossed with the one ahead " + k, x.shows(4 * k - 2, NONE, 1, 0), 1);
            if (k > 1) held.due("crossed far ahead " + k, x.shows(4 * k - 6, NONE, 1, 0), 0);
            if (k < 38) held.due("crossed far behind " + k, x.shows(4 * k + 6, NONE, 1, 0), 0);
        }
        RelayHut y = Check.hutOf("key a;key b;lamp l=a&b;");
        held.due("both are open", y.shows(2, NONE, 0, 0), 0);
        held.due("the first is closed", y.shows(2, NONE, 1, 0), 1);
        held.due("the second is closed", y.shows(2, NONE, 2, 0), 1);
        // of three, one and two contacts, and two relays: which numbers are flaws
        RelayHut z = Check.hutOf("key k;relay r=k&k|k;relay s=k;lamp l=k|k;lamp m=k;");
        String flaws = " 0 1 2 4 5 6 8 9 12 13 16 17 18 20 21 24 25 200 201 202 203 ";
        for (int f = -3; f < 230; f++) {
            boolean is = f == NONE || flaws.contains(" " + f + " ");
            held.due(f + " is a flaw", z.start(f, NONE) != NONE, is);
            held.due(f + " is a second flaw", z.shows(0, f, 0, 0) != NONE, is);
        }
        RelayHut full = Check.hutOf("key k;relay r=" + TextBounds.row("k", 40) + ";");
        held.due("the last cross", full.start(154, NONE), 0);
        held.due("none behind the last", full.start(158, NONE), NONE);
        held.due("no 41st", full.start(160, NONE), NONE);
    }

    private void relayFlaws() {
        held.sentence("200 + 2 * r: RELAY r is STUCK up, 201 + 2 * r: down.");
        String six = "key k;relay p=k;relay q=k;relay r=k;relay s=k;relay t=k;relay u=k;";
        RelayHut down = Check.hutOf(six);
        RelayHut up = Check.hutOf(six.replace("=k", "=!k"));
        for (int r = 0; r < 6; r++) {
            held.due("up " + r, down.start(200 + 2 * r, NONE), 1 << r);
            held.due("up " + r + " from all", down.settles(200 + 2 * r, NONE, 0, 63), 1 << r);
            held.due("down " + r, up.start(201 + 2 * r, NONE), 63 - (1 << r));
            held.due("down " + r + " from none", up.settles(NONE, 201 + 2 * r, 0, 0), 63 - (1 << r));
        }
        for (int f : new int[] {198, 199, 212, 213}) held.due("of six: " + f, down.start(f, NONE), NONE);
        RelayHut five = Check.hutOf(six.replace("relay u=k;", ""));
        held.due("of five: the last", five.start(209, NONE), 0);
        for (int f : new int[] {210, 211}) held.due("of five: " + f, five.start(f, NONE), NONE);
        RelayHut none = Check.hutOf("key k;");
        for (int f : new int[] {0, 1, 200, 201}) held.due("of none: " + f, none.start(f, NONE), NONE);
    }

    private void twoFlaws() {
        held.sentence("A HUT is a DRAWING with no, one or two FLAWS (of one CONTACT with two of them: WELDED ahead of BROKEN;"
                + " CROSSES look at CONTACTS as they are without CROSSES; of a RELAY: up ahead of down).");
        RelayHut x = Check.hutOf("relay r=r;");
        RelayHut y = Check.hutOf("key a;key b;key c;lamp l=a&b&c;");
        int[][] flaws = {
            {0, 1, 6, 1}, {1, 0, 6, 1}, {1, 1, 7, 0}, {0, 0, 6, 1}, {0, 0, 2, 0}, {0, 5, 7, 0}, {0, 4, 4, 1}, {1, 4, 7, 0},
            {2, 6, 1, 0}, {6, 2, 1, 0}, {2, 6, 4, 0}, {2, 6, 2, 1}, {6, 2, 2, 1}, {2, 6, 5, 1}, {2, 2, 5, 1}, {2, 2, 4, 0},
            {0, 2, 4, 1}, {2, 0, 4, 1}, {4, 2, 4, 1}, {1, 2, 6, 1}, {1, 2, 5, 0}, {5, 2, 5, 1}, {5, 2, 6, 0}, {1, 6, 7, 0}, {9, 2, 3, 0}};
        for (int[] d : flaws) held.due("flaws " + d[0] + " and " + d[1] + " with " + d[2], y.shows(d[0], d[1], d[2], 0), d[3]);
        held.due("up ahead of down", x.start(200, 201), 1);
        held.due("up ahead of down, told the other way", x.start(201, 200), 1);
        held.due("down twice", x.settles(201, 201, 0, 1), 0);
        held.due("up twice", x.settles(200, 200, 0, 0), 1);
        RelayHut two = Check.hutOf("key k;relay r=k;relay s=k;");
        held.due("of two relays", two.start(200, 203), 1);
        held.due("of two relays, with the key", two.settles(201, 202, 1, 0), 2);
        held.due("of a contact and a relay", two.settles(0, 203, 0, 2), 1);
        held.due("of a contact and its relay", two.start(0, 201), 0);
    }

    // ==== settling ====

    private void due() {
        held.sentence("DUE is a RELAY that is not STUCK and is up or down unlike its C is closed or open.");
        String text = "key k;relay r=k;";
        held.due("down and open", settled(text, 0, 0), 0);
        held.due("down and closed", settled(text, 1, 0), 1);
        held.due("up and closed", settled(text, 1, 1), 1);
        held.due("up and open", settled(text, 0, 1), 0);
        RelayHut x = Check.hutOf("relay r=!r;");
        held.due("never settled", x.start(NONE, NONE), -2);
        held.due("not due when stuck up", x.start(200, NONE), 1);
        held.due("not due when stuck down", x.start(201, NONE), 0);
        held.due("not due when both", x.settles(201, 200, 0, 0), 1);
    }

    private void quick() {
        held.sentence("Of those DUE one that is to come up, or to drop with slow 0 (0 without) is QUICK.");
        for (int slow = 0; slow < 10; slow++) {
            // r holds itself up if it comes up while s is still up
            String text = "key k;relay r slow 9=k&(r|s);relay s slow " + slow + "=!k;";
            held.due("up against a drop with slow " + slow, settled(text, 1, 2), slow == 0 ? -2 : 1);
        }
        held.due("up against a drop without slow", settled("key k;relay r=k&(r|s);relay s=!k;", 1, 2), -2);
        held.due("two that come up, however slow", settled("relay r slow 1=!s;relay s slow 9=!r;", 0, 0), -2);
        held.sentence("One after the other changes: any QUICK one; if there is none, any with the least slow.");
        for (int r = 0; r < 10; r++) {
            for (int s = 0; s < 10; s++) {
                // r holds itself up if s drops first
                String text = "key k;relay r slow " + r + "=k|r&!s;relay s slow " + s + "=k;";
                held.due("drops with slow " + r + " and " + s, settled(text, 0, 3), r == s ? -2 : r < s ? 0 : 1);
            }
        }
        String three = "key k;relay r slow 2=k|r&!s;relay s slow 5=k;relay t";
        held.due("a quick one first, then by slow", settled(three + "=k;", 0, 7), 0);
        held.due("the least slow of three", settled(three + " slow 1=k|s&!r;", 0, 7), 0);
        String still = "key k;relay p=p;relay r slow 1=k;relay s slow 2=k;relay t slow 9=t|!t;";
        held.due("those that are not due don't change", settled(still, 0, 6 + 8), 8);
        held.due("nor do they if they are up", settled(still, 0, 7 + 8), 9);
        held.due("without slow is as with 0", settled("key k;relay r=k|r&!s;relay s slow 0=k;", 0, 3), -2);
        held.due("slow 0000 too", settled("key k;relay r slow 0000=k|r&!s;relay s slow 1=k;", 0, 3), 0);
    }

    private void settled() {
        held.sentence("It SETTLES in a state in which none is DUE, if all ways from where it is end in that one;"
                + " else (ways end unlike, or go on without end) it is a RACE.");
        String unlike = "relay r=!s;relay s=!r;";
        held.due("ways end unlike", settled(unlike, 0, 0), -2);
        held.due("and from both up", settled(unlike, 0, 3), -2);
        held.due("none is due", settled(unlike, 0, 1), 1);
        held.due("none is due", settled(unlike, 0, 2), 2);
        held.due("a way goes on without end beside one that ends", settled("relay r=!r&!s;relay s=s|!r;", 0, 0), -2);
        held.due("behind it", settled("relay r=!r&!s;relay s=s|!r;", 0, 2), 2);
        held.due("into it", settled("relay r=!r&!s;relay s=s|!r;", 0, 3), 2);
        held.due("six in a ring without end", settled("relay p=!u;relay q=p;relay r=q;relay s=r;relay t=s;relay u=t;", 0, 0), -2);
        held.due("a ring that ends", settled("relay p=u;relay q=p;relay r=q;relay s=r;relay t=s;relay u=t;", 0, 0), 0);
        held.due("a ring that ends up", settled("relay p=u;relay q=p;relay r=q;relay s=r;relay t=s;relay u=t;", 0, 63), 63);
        held.due("a ring that ends unlike", settled("relay p=u;relay q=p;relay r=q;relay s=r;relay t=s;relay u=t;", 0, 1), -2);
        held.due("six at once, in any order", settled("key k;relay p=k;relay q=k;relay r=k;relay s=k;relay t=k;relay u=k;", 1, 0), 63);
        held.due("one after the other", settled("key k;relay p=k;relay q=p;relay r=q;relay s=r;relay t=s;relay u=t;", 1, 0), 63);
        held.due("slowly without end", settled("relay r slow 9=!r;", 0, 0), -2);
        held.due("the slow one that would end it waits for quick ones without end",
                settled("key k;relay r=!r&s;relay s slow 1=k;", 0, 2), -2);
        held.due("without relays", settled("key k;lamp l=k;", 1, 0), 0);
        // 24 16 20 21 23 31 30 28 29 25 17 19 27 26 18 22 54 .. 43 42 34 32: no way is longer than through all 64 states
        String longest = "relay a slow 1=c&!b;relay b slow 2=a&!d;relay c slow 2=!a&!d&!f;"
                + "relay d=b&a|c&d|!a&!b&f&(d|e);relay e slow 2=b&e&!f;relay f slow 3=!d;";
        held.due("one way goes through all 64 states", settled(longest, 0, 24), 32);
        held.due("all ways behind its beginning end there, too", settled(longest, 0, 16), 32);
    }

    private void started() {
        held.sentence("WORKED: all INPUTS off, all RELAYS down (STUCK ones as they are), it SETTLES: START.");
        RelayHut x = Check.hutOf("key k;track t;relay r=r|s;relay s=k;relay u=t;");
        held.due("all off and down", x.start(NONE, NONE), 4);
        held.due("a stuck one as it is", x.start(202, NONE), 7);
        held.due("stuck up", x.start(200, NONE), 5);
        held.due("stuck down", x.start(205, NONE), 0);
        held.due("welded", x.start(4, NONE), 5);
        held.due("no state from ahead matters", x.settles(NONE, NONE, 0, 7), 5);
        held.due("a race", Check.hutOf("relay r=!r;").start(NONE, NONE), -2);
        held.due("of nothing", Check.hutOf("").start(NONE, NONE), 0);
    }

    private void acts() {
        held.sentence("An ACT: one INPUT changes, and it SETTLES from the state in which it was.");
        // with k r comes up and stays until j
        RelayHut x = Check.hutOf("key k;key j;relay r=k|r&!j;");
        held.due("k with r, j with and without, both with r, none with and without: but j with r is none of them", x.reached(NONE, NONE), 5);
        // both at once would never be seen as r alone
        RelayHut both = Check.hutOf("key k;key j;relay r=r|k&!j;relay s=s|j&!k;relay u=u|k&j&!r&!s;");
        // without k and j all four states, with one of them two each, with both three
        held.due("not two at once: u stays down", both.reached(NONE, NONE), 11);
        held.sentence("REACHED: START and all that ACTS lead to one after the other; with a RACE a way ends.");
        RelayHut race = Check.hutOf("key k;key j;relay r=k&!r;lamp l=k&j;");
        held.due("none behind a race", race.reached(NONE, NONE), 2);
        held.due("all without it", race.reached(201, NONE), 4);
        RelayHut start = Check.hutOf("key k;relay r=!r&!k;");
        held.due("none behind a race at the start", start.reached(NONE, NONE), 0);
        RelayHut around = Check.hutOf("key k;key j;relay r=k&!j&!r;lamp l=k;");
        held.due("around the race, by j first", around.reached(NONE, NONE), 3);
    }

    private void wrong() {
        held.sentence("WRONG: some green lamp's C is closed while the C of one of its NEVERS holds"
                + " (by INPUTS and states of RELAYS as they are; FLAWS of CONTACTS don't matter there).");
        RelayHut x = Check.hutOf("key k;key j;green g=k;green h=!k;never h if k;never g if !k;never g if j&!k;never h if j&k;");
        held.due("each has its own", x.bad(NONE, NONE), -2);
        held.due("the first one's second never", x.bad(0, 5), 0);
        held.due("welded, closed with k off", x.bad(0, NONE), 0);
        held.due("welded, closed with k on", x.bad(4, NONE), 1);
        RelayHut one = Check.hutOf("key k;key j;green g=k;never g if j&!j;never g if k&j;never g if j&!k;");
        held.due("one of three", one.bad(NONE, NONE), 2);
        held.due("its lamp is not closed", one.bad(1, NONE), -2);
        RelayHut at = Check.hutOf("key k;key j;green g=k;green h=!k;never g if k&j;never h if k&j;");
        held.due("two greens have nevers that hold at once", at.bad(NONE, NONE), 2);
        held.due("the other one shows, too", at.bad(5, 4), 2);
        held.due("the other one alone shows", at.bad(1, 4), 2);
        held.due("neither shows", at.bad(1, NONE), -2);
        // the contacts of the circuits, not those of the never
        RelayHut flaws = Check.hutOf("key k;key j;relay r=k;green g=r&j;never g if r;never g if k&!j;");
        held.due("with r", flaws.bad(NONE, NONE), 2);
        held.due("j welded: k alone", flaws.bad(8, NONE), 1);
        held.due("r welded in the lamp: r is down", flaws.bad(4, NONE), 2);
        held.due("r stuck up", flaws.bad(200, NONE), 1);
        held.due("r stuck down: not even with k", flaws.bad(201, NONE), -2);
        held.due("r stuck down, its contact welded: j alone lights it, and neither never holds with j", flaws.bad(201, 4), -2);
        RelayHut third = Check.hutOf("key k;relay r=k;green g=!k;never g if !r;");
        held.due("at the start", third.bad(NONE, NONE), 0);
        held.due("r by a weld", third.bad(0, NONE), -2);
        held.due("a lamp that is not green has none", Check.hutOf("key k;lamp l=k;green g=!k;never g if k;").bad(NONE, NONE), -2);
        held.due("the last of five lamps, of six nevers",
                Check.hutOf("key k;lamp a=k;lamp b=k;lamp c=k;green d=!k;green e=k;" + "never d if k;".repeat(5) + "never e if k;").bad(NONE, NONE), 1);
    }

    private void fewestActs() {
        held.sentence("==== III. BAD of a HUT: something that is WRONG is REACHED: the fewest ACTS to it; of these the first by INPUTS.");
        String keys = "key a;key b;key c;key d;key e;";
        RelayHut x = Check.hutOf(keys + "green g=a&b&c|d&e|b&e;never g if e|c;");
        held.due("the fewest", x.bad(NONE, NONE), 2);
        held.due("the first by inputs", x.badAct(NONE, NONE, 0) * 10 + x.badAct(NONE, NONE, 1), 14);
        held.due("without b and e", x.bad(4 * 5 + 1, NONE), 2);
        held.due("then d and e", x.badAct(21, NONE, 0) * 10 + x.badAct(21, NONE, 1), 34);
        held.due("without e: the three", x.bad(4 * 4 + 1, 4 * 6 + 1), 3);
        held.due("in their order", x.badAct(17, 25, 0) * 100 + x.badAct(17, 25, 1) * 10 + x.badAct(17, 25, 2), 12);
        RelayHut all = Check.hutOf(keys + "green g=a&b&c&d&e;never g if a;");
        held.due("all five", all.bad(NONE, NONE), 5);
        for (int i = 0; i < 5; i++) held.due("act " + i, all.badAct(NONE, NONE, i), i);
        // b must come ahead of a
        RelayHut order = Check.hutOf(keys + "relay r=r|b&!a;green g=a&b&r;never g if a;");
        held.due("two", order.bad(NONE, NONE), 2);
        held.due("b, then a", order.badAct(NONE, NONE, 0) * 10 + order.badAct(NONE, NONE, 1), 10);
        // the same key twice
        RelayHut again = Check.hutOf(keys + "relay r=r|e;green g=r&!e;never g if r;");
        held.due("on and off", again.bad(NONE, NONE), 2);
        held.due("e, then e", again.badAct(NONE, NONE, 0) * 10 + again.badAct(NONE, NONE, 1), 44);
        held.due("none at all", Check.hutOf("track t;green g=t;never g if t;").bad(NONE, NONE), 0);
        orders();
    }

    /** Each is told as if it were asked for alone: what was asked ahead, of this hut or another one, doesn't matter. */
    private void inAnyOrder(String text, int f, int reached, int races, int bad, int act) {
        int[] due = {reached, races, bad, act};
        OfFlaws[] calls = {RelayHut::reached, RelayHut::races, RelayHut::bad, (h, a, b) -> h.badAct(a, b, 0)};
        String[] names = {"reached", "races", "bad", "badAct"};
        for (int first = 0; first < 4; first++) {
            for (int second = 0; second < 4; second++) {
                RelayHut x = Check.hutOf(text);
                held.due(names[first], calls[first].on(x, f, NONE), due[first]);
                held.due(names[second] + " behind " + names[first], calls[second].on(x, f, NONE), due[second]);
                RelayHut y = Check.hutOf(text);
                y.reached(201, NONE);
                held.due(names[first] + " behind another hut", calls[first].on(y, NONE, f), due[first]);
                held.due(names[second] + " behind these", calls[second].on(y, NONE, f), due[second]);
            }
        }
    }

    private void orders() {
        // wrong at the start; j races
        inAnyOrder("key k;key j;relay r=j&!r;green g=k|!k;never g if k|!k;", NONE, 2, 2, 0, NONE);
        // k races at the start, j is wrong
        inAnyOrder("key k;key j;relay r=k&!r&!j;green g=j;never g if j;", NONE, 3, 2, 1, 1);
        inAnyOrder("key k;key j;relay r=k&!r&!j;green g=j&!j;never g if j;", 16, 3, 2, 1, 1);
        // k races at the start, j is not wrong, m is
        inAnyOrder("key k;key j;key m;relay r=k&!r&!j&!m;green g=m;never g if m;", NONE, 7, 3, 1, 2);
        inAnyOrder("key k;key j;key m;relay r=k&!r&!j&!m;green g=m&j;never g if m;", NONE, 7, 3, 2, 1);
        inAnyOrder("key k;key j;relay r=k&!r&!j;green g=j&!j;never g if j;", NONE, 3, 2, -2, NONE);
        inAnyOrder("key k;relay r=!r;green g=k|!k;never g if k|!k;", NONE, 0, 1, -2, NONE);
        inAnyOrder("key k;relay r=k;green g=r;never g if k;", NONE, 2, 0, 1, 0);
    }

    // ==== promises 9 to 15 ====

    private static final String TWO = "key k;track t;relay r=k&t;relay s=r;green g=s;never g if !t;";
    private static final int[] FLAWS = {0, 1, 2, 4, 5, 8, 9, 12, 13, 200, 201, 202, 203};
    private static final int[] NO_FLAWS = {-2, -3, -200, 3, 6, 7, 10, 11, 14, 15, 16, 39, 40, 160, 161, 199, 204, 205, 212, LEAST, MOST};

    /** All calls with two flaws: NONE for no such ones, whichever of the two it is, and without a drawing. */
    private void noSuchFlaws(OfFlaws call) {
        RelayHut x = Check.hutOf(TWO);
        held.due("no flaws", call.on(x, NONE, NONE) != NONE, true);
        for (int f : FLAWS) {
            held.due("flaw " + f, call.on(x, f, NONE) != NONE, true);
            held.due("second flaw " + f, call.on(x, NONE, f) != NONE, true);
            held.due("flaw twice " + f, call.on(x, f, f) != NONE, true);
        }
        RelayHut race = Check.hutOf("relay r=!r;");
        for (int f : NO_FLAWS) {
            held.due("no flaw " + f, call.on(x, f, NONE), NONE);
            held.due("no second flaw " + f, call.on(x, NONE, f), NONE);
            held.due("no flaw " + f + " with one that is there", call.on(x, 0, f), NONE);
            held.due("no flaw " + f + " of a race", call.on(race, f, NONE), NONE);
        }
        RelayHut none = new RelayHut();
        held.due("without a drawing", call.on(none, NONE, NONE), NONE);
        held.due("without a drawing", call.on(none, 0, 0), NONE);
    }

    private void settles() {
        held.sentence("`int settles(int f, int g, int inputs, int relays)`: Where the HUT with FLAWS f and g (NONE: none) SETTLES with INPUTS"
                + " from RELAYS (bits; STUCK ones are put as they are STUCK): bits; -2: a RACE; NONE: no such ones.");
        RelayHut x = Check.hutOf(TWO);
        held.due("with k", x.settles(NONE, NONE, 1, 0), 3);
        held.due("with k and a train", x.settles(NONE, NONE, 3, 3), 0);
        held.due("broken", x.settles(1, NONE, 1, 3), 0);
        held.due("as the second one", x.settles(NONE, 1, 1, 3), 0);
        held.due("r stuck up, told down", x.settles(200, NONE, 0, 0), 3);
        held.due("r stuck down, told up", x.settles(201, NONE, 1, 1), 0);
        held.due("s stuck, told the other way", x.settles(202, NONE, 0, 1), 2);
        RelayHut hold = Check.hutOf("relay r=r|s;relay s=s;");
        held.due("it is put ahead of settling", hold.settles(202, NONE, 0, 0), 3);
        held.due("and down", hold.settles(203, NONE, 0, 2), 0);
        held.due("a race", Check.hutOf("relay r=!r;").settles(NONE, NONE, 0, 1), -2);
        for (int inputs : new int[] {-1, 4, 5, 8, 32, LEAST, MOST}) held.due("inputs " + inputs, x.settles(NONE, NONE, inputs, 0), NONE);
        for (int relays : new int[] {-1, 4, 7, 64, LEAST, MOST}) held.due("relays " + relays, x.settles(NONE, NONE, 0, relays), NONE);
        held.due("the last inputs and relays", x.settles(NONE, NONE, 3, 3), 0);
        RelayHut full = Check.hutOf("key a;key b;key c;key d;key e;relay p=p;relay q=q;relay r=r;relay s=s;relay t=t;relay u=u;");
        held.due("the last of all", full.settles(NONE, NONE, 31, 63), 63);
        held.due("inputs 32", full.settles(NONE, NONE, 32, 0), NONE);
        held.due("relays 64", full.settles(NONE, NONE, 0, 64), NONE);
        RelayHut nothing = Check.hutOf("");
        held.due("of nothing", nothing.settles(NONE, NONE, 0, 0), 0);
        held.due("inputs 1 of none", nothing.settles(NONE, NONE, 1, 0), NONE);
        held.due("relays 1 of none", nothing.settles(NONE, NONE, 0, 1), NONE);
        noSuchFlaws((h, f, g) -> h.settles(f, g, 0, 0));
    }

    private void shows() {
        held.sentence("`int shows(int f, int g, int inputs, int relays)`: LAMPS that show then (bits), by INPUTS and RELAYS as they are told"
                + " (STUCK ones as they are told); NONE: no such ones.");
        RelayHut x = Check.hutOf("key k;relay r=k;lamp a=r;lamp b=!r;lamp c=k;");
        held.due("not settled first", x.shows(NONE, NONE, 1, 0), 6);
        held.due("nor here", x.shows(NONE, NONE, 0, 1), 1);
        held.due("stuck up, told down", x.shows(200, NONE, 0, 0), 2);
        held.due("stuck up, told up", x.shows(200, NONE, 0, 1), 1);
        held.due("stuck down, told up", x.shows(201, NONE, 0, 1), 1);
        held.due("two flaws", x.shows(5, 8, 1, 1), 6);
        held.due("in a race too", Check.hutOf("relay r=!r;lamp l=r;").shows(NONE, NONE, 0, 1), 1);
        for (int inputs : new int[] {-1, 2, 3, 32, LEAST, MOST}) held.due("inputs " + inputs, x.shows(NONE, NONE, inputs, 0), NONE);
        for (int relays : new int[] {-1, 2, 3, 64, LEAST, MOST}) held.due("relays " + relays, x.shows(NONE, NONE, 0, relays), NONE);
        held.due("without lamps", Check.hutOf("key k;").shows(NONE, NONE, 1, 0), 0);
        noSuchFlaws((h, f, g) -> h.shows(f, g, 0, 0));
    }

    private void start() {
        held.sentence("`int start(int f, int g)`: START of the HUT: RELAYS (bits); -2: a RACE; NONE: no such FLAWS.");
        RelayHut x = Check.hutOf("track t;relay r=t&!s;relay s=t&!r;");
        held.due("a race", x.start(NONE, NONE), -2);
        held.due("by one flaw", x.start(200, NONE), 1);
        held.due("by the other", x.start(NONE, 201), 2);
        held.due("by two", x.start(201, 203), 0);
        held.due("by two", x.start(200, 202), 3);
        held.due("broken", x.start(1, NONE), 2);
        noSuchFlaws(RelayHut::start);
    }

    private void reached() {
        held.sentence("`int reached(int f, int g)`: How many pairs of INPUTS and RELAYS are REACHED (START too); NONE: no such FLAWS.");
        held.due("START alone", Check.hutOf("relay r=r;").reached(NONE, NONE), 1);
        held.due("of nothing", Check.hutOf("").reached(NONE, NONE), 1);
        held.due("no START", Check.hutOf("relay r=!r;").reached(NONE, NONE), 0);
        held.due("each input's", Check.hutOf("key a;key b;key c;key d;key e;").reached(NONE, NONE), 32);
        RelayHut x = Check.hutOf("key k;relay r=r|k;");
        held.due("k off with r down, on with r up, off with r up", x.reached(NONE, NONE), 3);
        held.due("r stuck up", x.reached(200, NONE), 2);
        held.due("both flaws", x.reached(201, 1), 2);
        noSuchFlaws(RelayHut::reached);
    }

    private void races() {
        held.sentence("`int races(int f, int g)`: How many ACTS from what is REACHED (START too, if that is one) end in a RACE; NONE: no such FLAWS.");
        held.due("START is one", Check.hutOf("key k;key j;relay r=!r;").races(NONE, NONE), 1);
        held.due("without inputs", Check.hutOf("relay r=!r;").races(NONE, NONE), 1);
        held.due("none", Check.hutOf("key k;relay r=k;").races(NONE, NONE), 0);
        held.due("of nothing", Check.hutOf("").races(NONE, NONE), 0);
        RelayHut x = Check.hutOf("key k;key j;relay r=k&j&!r;");
        held.due("from k by j and from j by k", x.races(NONE, NONE), 2);
        held.due("j welded: k from both", x.races(4, NONE), 2);
        held.due("two welded: START", x.races(0, 4), 1);
        held.due("r broken: none", x.races(9, NONE), 0);
        RelayHut y = Check.hutOf("key a;key b;key c;key d;key e;relay r=a&!r;");
        held.due("from each of 16", y.races(NONE, NONE), 16);
        noSuchFlaws(RelayHut::races);
    }

    private void bad() {
        held.sentence("`int bad(int f, int g)`: BAD: how many ACTS; -2: nothing WRONG is REACHED; NONE: no such FLAWS.");
        RelayHut x = Check.hutOf(TWO);
        held.due("as it is", x.bad(NONE, NONE), -2);
        held.due("t welded: k, then a train", x.bad(4, NONE), 2);
        held.due("r stuck up: a train", x.bad(NONE, 200), 1);
        held.due("and s stuck down", x.bad(200, 203), -2);
        held.due("a race ahead of it", Check.hutOf("key k;relay r=k&!r;green g=k;never g if k;").bad(NONE, NONE), -2);
        held.due("a race at the start", Check.hutOf("relay r=!r;green g=r|!r;never g if r|!r;").bad(NONE, NONE), -2);
        held.due("at the start", Check.hutOf("relay r=r;green g=!r;never g if !r;").bad(NONE, NONE), 0);
        held.due("without nevers", Check.hutOf("key k;green g=k;").bad(NONE, NONE), -2);
        noSuchFlaws(RelayHut::bad);
    }

    private void badAct() {
        held.sentence("`int badAct(int f, int g, int i)`: The i-th ACT (an INPUT) to it; NONE: not so many, not BAD, no such FLAWS.");
        RelayHut x = Check.hutOf(TWO);
        held.due("k", x.badAct(4, NONE, 0), 0);
        held.due("then the train", x.badAct(4, NONE, 1), 1);
        for (int i : new int[] {-1, 2, 3, LEAST, MOST}) held.due("act " + i, x.badAct(4, NONE, i), NONE);
        held.due("of one act", x.badAct(NONE, 200, 0), 1);
        held.due("of one act", x.badAct(NONE, 200, 1), NONE);
        for (int i : new int[] {-1, 0, 1}) {
            held.due("not BAD: act " + i, x.badAct(NONE, NONE, i), NONE);
            held.due("BAD at the start: act " + i, Check.hutOf("relay r=r;green g=!r;never g if !r;").badAct(NONE, NONE, i), NONE);
            held.due("no such flaws: act " + i, x.badAct(3, NONE, i), NONE);
            held.due("no such flaws: act " + i, x.badAct(4, 3, i), NONE);
            x.badAct(4, NONE, 0);
            held.due("no such flaws behind some that are: act " + i, x.badAct(3, NONE, i), NONE);
            held.due("no such flaws behind some that are: act " + i, x.badAct(NONE, 6, i), NONE);
            held.due("without a drawing: act " + i, new RelayHut().badAct(NONE, NONE, i), NONE);
        }
    }
}
