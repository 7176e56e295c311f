/** The boundaries of "VI.": rounds by hand, straps, ages and clashes; what is told ahead of what; and 512 calls. */
final class HandBounds {
    private static final int NONE = -1;
    private static final int LEAST = Integer.MIN_VALUE;
    private static final int MOST = Integer.MAX_VALUE;
    private static final String FULL = "key a;key b;key c;key d;track e;relay p=a;relay q=a;relay r=a;relay s=a;relay t=a;relay u=a;"
            + "lamp f=p;lamp g=q;lamp h=r;lamp i=s;green j=t;never j if !e;";
    private final Held held;

    private HandBounds(Held held) {
        this.held = held;
    }

    static void run(Held held) {
        HandBounds b = new HandBounds(held);
        b.byHand();
        b.lookAtOnce();
        b.waiting();
        b.waitingAgain();
        b.clashes();
        b.anotherDrawing();
        b.noneAhead();
        b.set();
        b.strap();
        b.age();
        b.round();
        b.clash();
        b.hand();
        b.calls();
    }

    private void byHand() {
        held.sentence("==== VI. ROUNDS by hand, of the DRAWING AT HAND: INPUTS are set, STRAPS lie on CONTACTS (closed), each RELAY has an AGE 0 .. 9.");
        RelayHut x = Check.hutOf(FULL);
        for (int i = 0; i < 5; i++) held.due("input " + i, x.set(i, true), true);
        held.due("all on", x.hand(0), 31);
        for (int r = 0; r < 6; r++) {
            held.due("age 9 of " + r, x.age(r, 9), true);
            held.due("age 0 of " + r, x.age(r, 0), true);
        }
        held.due("all come up", x.round(), 63);
        held.due("and show", x.hand(2), 31);
        RelayHut straps = Check.hutOf("key k;relay r=k;lamp l=" + TextBounds.row("k", 39) + ";");
        for (int k = 1; k < 40; k++) {
            held.due("not yet", straps.hand(2), 0);
            held.due("strap " + k, straps.strap(k, true), true);
            held.due("straps", straps.hand(3), k);
        }
        held.due("all 39 closed", straps.hand(2), 1);
        held.due("r's is none of them", straps.round(), 0);
        held.due("the 40th", straps.strap(0, true), true);
        held.due("straps", straps.hand(3), 40);
        held.due("r comes up", straps.round(), 1);
        held.due("one off", straps.strap(39, false), true);
        held.due("open again", straps.hand(2), 0);
    }

    private void lookAtOnce() {
        held.sentence("In a ROUND all RELAYS look at once: one that is to come up comes up;");
        RelayHut x = Check.hutOf("key k;relay p=k;relay q=p;relay r=q;relay s=!p;");
        x.set(0, true);
        held.due("p, and s by the p of before", x.round(), 9);
        held.due("q; s drops", x.round(), 10);
        held.due("r", x.round(), 4);
        held.due("none", x.round(), 0);
        held.due("up", x.hand(1), 7);
        RelayHut slow = Check.hutOf("key k;relay r slow 9=k;");
        slow.set(0, true);
        slow.age(0, 9);
        held.due("however slow and old", slow.round(), 1);
        RelayHut flips = Check.hutOf("relay r=!s;relay s=!r;");
        for (int i = 0; i < 4; i++) {
            held.due("both " + i, flips.round(), 3);
            held.due("up " + i, flips.hand(1), i % 2 == 0 ? 3 : 0);
        }
    }

    private void waiting() {
        held.sentence("one that is to drop drops if it was to drop in each of the last slow + AGE ROUNDS, too.");
        for (int slow = 0; slow < 10; slow++) {
            for (int age = 0; age < 10; age++) {
                RelayHut x = Check.hutOf("key k;relay r slow " + slow + "=k;");
                x.age(0, age);
                x.set(0, true);
                x.round();
                x.set(0, false);
                String with = " with slow " + slow + " and age " + age;
                for (int i = 0; i < slow + age; i++) held.due("round " + i + with, x.round(), 0);
                held.due("still up" + with, x.hand(1), 1);
                held.due("drops" + with, x.round(), 1);
                held.due("down" + with, x.hand(1), 0);
                held.due("stays down" + with, x.round(), 0);
            }
        }
        RelayHut two = Check.hutOf("key k;relay r slow 2=k;relay s=k;relay t slow 3=k;");
        two.age(1, 2);
        two.set(0, true);
        two.round();
        two.set(0, false);
        int[] changes = {0, 0, 3, 4, 0};
        for (int i = 0; i < 5; i++) held.due("each by its own, round " + i, two.round(), changes[i]);
    }

    private void waitingAgain() {
        // one round in which it is not to drop, and it waits anew
        for (int waited = 0; waited <= 3; waited++) {
            RelayHut x = Check.hutOf("key k;relay r slow 3=k;");
            x.set(0, true);
            x.round();
            x.set(0, false);
            for (int i = 0; i < waited; i++) x.round();
            x.set(0, true);
            held.due("held behind " + waited, x.round(), 0);
            x.set(0, false);
            for (int i = 0; i < 3; i++) held.due("waits anew " + i + " behind " + waited, x.round(), 0);
            held.due("drops behind " + waited, x.round(), 1);
        }
        // it waits for its age as it is in the round
        RelayHut older = Check.hutOf("key k;relay r=k;");
        older.age(0, 2);
        older.set(0, true);
        older.round();
        older.set(0, false);
        older.round();
        older.round();
        older.age(0, 4);
        held.due("older by now: third", older.round(), 0);
        held.due("older by now: fourth", older.round(), 0);
        held.due("older by now: fifth", older.round(), 1);
        RelayHut younger = Check.hutOf("key k;relay r=k;");
        younger.age(0, 9);
        younger.set(0, true);
        younger.round();
        younger.set(0, false);
        for (int i = 0; i < 3; i++) younger.round();
        younger.age(0, 4);
        held.due("three were: not in four", younger.round(), 0);
        younger.age(0, 3);
        held.due("four were: in three", younger.round(), 1);
        // set off and on between two rounds: no round saw it
        RelayHut unseen = Check.hutOf("key k;relay r slow 1=k;");
        unseen.set(0, true);
        unseen.round();
        unseen.set(0, false);
        unseen.round();
        unseen.set(0, true);
        unseen.set(0, false);
        held.due("no round saw it held", unseen.round(), 1);
        // it came up again: what was ahead of that is no waiting
        RelayHut again = Check.hutOf("key k;relay r slow 1=k;");
        for (int i = 0; i < 3; i++) {
            again.set(0, true);
            held.due("up " + i, again.round(), 1);
            again.set(0, false);
            held.due("waits " + i, again.round(), 0);
            held.due("drops " + i, again.round(), 1);
        }
    }

    private void clashOf(String text, int changed, int clash) {
        RelayHut x = Check.hutOf(text);
        if (x.count(2) > 0) x.set(0, true);
        held.due("round of " + text, x.round(), changed);
        held.due("clash of " + text, x.clash(), clash);
    }

    private void clashes() {
        held.sentence("A CLASH: two change in one ROUND, and one of them has a CONTACT in the other one's C.");
        clashOf("key k;relay r=k;relay s=k;", 3, 0);
        clashOf("key k;relay r=k|s;relay s=k;", 3, 1);
        clashOf("key k;relay r=k;relay s=k|r;", 3, 1);
        clashOf("key k;relay r=k|s;relay s=k|r;", 3, 1);
        clashOf("key k;relay r=k&!s;relay s=k;", 3, 1);
        clashOf("key k;relay r=k|r;relay s=k|s;", 3, 0);
        clashOf("key k;relay r=k|s;relay s=!k;", 1, 0);
        clashOf("key k;relay r=k|t;relay s=k|t;relay t=k&!k;", 3, 0);
        clashOf("key k;relay r=k;relay s=k;relay t=r&s;", 3, 0);
        clashOf("key k;relay r=k;relay s=k;lamp l=r&s;", 3, 0);
        clashOf("key k;relay r=k;relay s=k;green g=r&s;never g if r&s;", 3, 0);
        clashOf("key k;relay r=k;", 1, 0);
        clashOf("key k;relay r=k|r;", 1, 0);
        clashOf("key k;lamp l=k;", 0, 0);
        clashOf("relay p=!p;relay q=q;relay r=r;relay s=s;relay t=t;relay u=!u|p&!p;", 33, 1);
        clashOf("key k;relay r=k|((k&(k|(s))));relay s=k;", 3, 1);
        // one comes up, the other drops
        RelayHut x = Check.hutOf("key k;relay r=k;relay s=!k|k&!r;");
        held.due("s comes up", x.round(), 2);
        held.due("alone", x.clash(), 0);
        x.set(0, true);
        held.due("r comes up", x.round(), 1);
        held.due("alone", x.clash(), 0);
        held.due("s drops", x.round(), 2);
        held.due("alone", x.clash(), 0);
        x.set(0, false);
        held.due("r drops, s comes up", x.round(), 3);
        held.due("two", x.clash(), 1);
        held.due("none", x.round(), 0);
        held.due("none", x.clash(), 0);
        // the contact has a strap: it is there all the same
        RelayHut strap = Check.hutOf("key k;relay r=s;relay s=k;");
        strap.strap(0, true);
        strap.set(0, true);
        held.due("both", strap.round(), 3);
        held.due("by a contact under a strap", strap.clash(), 1);
    }

    private static void worked(RelayHut x) {
        x.set(0, true);
        x.set(1, true);
        x.age(0, 2);
        x.strap(2, true);
        x.round();
        x.set(0, false);
        x.round();
    }

    private void anotherDrawing() {
        held.sentence("When another DRAWING comes AT HAND, all RELAYS are down, INPUTS off, STRAPS off, AGES 0, no ROUND was"
                + " (use() of the one AT HAND changes nothing).");
        String text = "key k;key j;relay r slow 1=k;relay s=j|r;lamp l=j;";
        held.unchanged("use of the one at hand", 1, h -> {
            Check.read(h, text);
            worked(h);
        }, h -> h.use(0) ? 1 : 0);
        held.unchanged("use of the second at hand", 1, h -> {
            Check.read(h, "");
            Check.read(h, text);
            worked(h);
        }, h -> h.use(1) ? 1 : 0);
        // there and back: as one that was just read
        RelayHut back = Check.hutOf(text);
        Check.read(back, text);
        back.use(0);
        worked(back);
        held.due("an input is on", back.hand(0), 2);
        held.due("relays are up", back.hand(1), 3);
        held.due("a strap lies", back.hand(3), 1);
        back.use(1);
        RelayHut plain = Check.hutOf(text);
        Check.read(plain, text);
        held.goesOnAlike("the other one", back, plain);
        RelayHut again = Check.hutOf(text);
        Check.read(again, text);
        again.use(0);
        worked(again);
        again.use(1);
        again.use(0);
        RelayHut first = Check.hutOf(text);
        Check.read(first, text);
        first.use(0);
        held.goesOnAlike("and back", again, first);
        RelayHut read = Check.hutOf(text);
        worked(read);
        Check.read(read, text);
        RelayHut fresh = Check.hutOf(text);
        Check.read(fresh, text);
        held.goesOnAlike("by read()", read, fresh);
        // a clash of the one that was at hand
        RelayHut clash = Check.hutOf("relay r=!s;relay s=!r;");
        clash.round();
        held.due("clash", clash.clash(), 1);
        Check.read(clash, "%");
        held.due("clash behind a fault", clash.clash(), 1);
        Check.read(clash, "");
        held.due("no round was", clash.clash(), 0);
        clash.use(0);
        held.due("no round was here either", clash.clash(), 0);
        // a wait of the one that was at hand
        RelayHut wait = Check.hutOf("key k;relay r slow 1=k;");
        Check.read(wait, "");
        wait.use(0);
        wait.set(0, true);
        wait.round();
        wait.set(0, false);
        wait.round();
        wait.use(1);
        wait.use(0);
        wait.set(0, true);
        held.due("up", wait.round(), 1);
        wait.set(0, false);
        held.due("waits anew", wait.round(), 0);
    }

    private void noneAhead() {
        held.sentence("Where NONE and -2 could both be told, it is NONE, if it is not told otherwise.");
        RelayHut x = Check.hutOf("key k;relay r=!r;lamp l=k;");
        Check.read(x, "key k;relay r=!r;");
        held.due("at hand", x.use(0), true);
        held.due("settles: a race, no such flaw", x.settles(3, NONE, 0, 0), NONE);
        held.due("settles: a race, no such second flaw", x.settles(NONE, 3, 0, 0), NONE);
        held.due("settles: a race, no such inputs", x.settles(NONE, NONE, 2, 0), NONE);
        held.due("settles: a race, no such relays", x.settles(NONE, NONE, 0, 2), NONE);
        held.due("start: a race, no such flaw", x.start(NONE, 3), NONE);
        held.due("bad: nothing is, no such flaw", x.bad(3, NONE), NONE);
        held.due("least: hidden, no such flaw", x.least(3), NONE);
        held.due("unlike: not the same, no such one", x.unlike(1, 2), NONE);
        held.due("safe: not the same, no such one", x.safe(2, 1, 0), NONE);
        held.due("safe told otherwise: not the same, whatever the set", x.safe(0, 1, 4), -2);
        held.due("plan: not the same, no such one", x.plan(0, 2, 1), NONE);
        held.due("plan: not the same, no such k", x.plan(0, 1, 0), NONE);
        held.due("plan: there is none, no such k", x.plan(0, 0, 8), NONE);
        held.due("fits told otherwise", x.fits(3, 0), -2);
        RelayHut one = Check.hutOf("key k;");
        held.due("next: fewer than two fit", one.next(0), -2);
        held.due("next: fewer than two fit, no such n", one.next(1), NONE);
        held.due("next: without a drawing", new RelayHut().next(0), NONE);
    }

    // ==== promises 34 to 39 ====

    private void set() {
        held.sentence("`boolean set(int input, boolean on)`: An INPUT is set by hand: true; false: no such one.");
        RelayHut x = Check.hutOf(FULL);
        for (int i = 0; i < 5; i++) {
            held.due("on " + i, x.set(i, true), true);
            held.due("inputs", x.hand(0), 1 << i);
            held.due("on again " + i, x.set(i, true), true);
            held.due("inputs", x.hand(0), 1 << i);
            held.due("off " + i, x.set(i, false), true);
            held.due("inputs", x.hand(0), 0);
            held.due("off again " + i, x.set(i, false), true);
            held.due("inputs", x.hand(0), 0);
        }
        for (int i : new int[] {-1, 5, 6, 31, 32, 33, LEAST, MOST}) {
            held.unchanged("set " + i + " on", 0, h -> Check.read(h, FULL), h -> h.set(i, true) ? 1 : 0);
            held.unchanged("set " + i + " off", 0, h -> {
                Check.read(h, FULL);
                for (int k = 0; k < 5; k++) h.set(k, true);
            }, h -> h.set(i, false) ? 1 : 0);
        }
        held.unchanged("without inputs", 0, h -> Check.read(h, "relay r=r;"), h -> h.set(0, true) ? 1 : 0);
        held.unchanged("the second of one", 0, h -> Check.read(h, "key k;relay r=k;"), h -> h.set(1, true) ? 1 : 0);
        held.unchanged("without a drawing", 0, h -> { }, h -> h.set(0, true) ? 1 : 0);
    }

    private void strap() {
        held.sentence("`boolean strap(int contact, boolean on)`: A STRAP lies on a CONTACT, or not: true; false: no such one.");
        RelayHut x = Check.hutOf("key k;relay r=k;lamp l=k&!r;");
        held.due("on", x.strap(0, true), true);
        held.due("again", x.strap(0, true), true);
        held.due("one", x.hand(3), 1);
        held.due("r comes up", x.round(), 1);
        held.due("off", x.strap(0, false), true);
        held.due("again", x.strap(0, false), true);
        held.due("none", x.hand(3), 0);
        held.due("r drops", x.round(), 1);
        x.strap(1, true);
        held.due("l shows", x.hand(2), 1);
        x.strap(2, true);
        held.due("two", x.hand(3), 2);
        x.strap(1, false);
        held.due("k is open again", x.hand(2), 0);
        for (int k : new int[] {-1, 3, 4, 39, 40, 63, 64, 65, LEAST, MOST}) {
            held.unchanged("strap " + k, 0, h -> Check.read(h, "key k;relay r=k;lamp l=k&!r;"), h -> h.strap(k, true) ? 1 : 0);
            held.unchanged("no strap " + k, 0, h -> {
                Check.read(h, "key k;relay r=k;lamp l=k&!r;");
                for (int i = 0; i < 3; i++) h.strap(i, true);
            }, h -> h.strap(k, false) ? 1 : 0);
        }
        Held.Script forty = h -> Check.read(h, "key k;relay r=" + TextBounds.row("k", 40) + ";");
        held.unchanged("strap 40 of 40", 0, forty, h -> h.strap(40, true) ? 1 : 0);
        RelayHut full = new RelayHut();
        forty.on(full);
        held.due("strap 39 of 40", full.strap(39, true), true);
        held.unchanged("without contacts", 0, h -> Check.read(h, "key k;"), h -> h.strap(0, true) ? 1 : 0);
        held.unchanged("without a drawing", 0, h -> { }, h -> h.strap(0, true) ? 1 : 0);
    }

    private void age() {
        held.sentence("`boolean age(int relay, int v)`: A RELAY's AGE becomes v: true; false: no such ones.");
        Held.Script old = h -> {
            Check.read(h, "key k;relay r=k;relay s=k;");
            h.age(0, 3);
            h.age(1, 9);
            h.set(0, true);
            h.round();
            h.set(0, false);
        };
        for (int v : new int[] {-1, 10, 11, LEAST, MOST}) held.unchanged("age " + v, 0, old, h -> h.age(0, v) ? 1 : 0);
        for (int r : new int[] {-1, 2, 3, 6, LEAST, MOST}) held.unchanged("age of relay " + r, 0, old, h -> h.age(r, 0) ? 1 : 0);
        held.unchanged("the same age again", 1, old, h -> h.age(0, 3) ? 1 : 0);
        held.unchanged("without relays", 0, h -> Check.read(h, "key k;"), h -> h.age(0, 0) ? 1 : 0);
        held.unchanged("without a drawing", 0, h -> { }, h -> h.age(0, 0) ? 1 : 0);
        RelayHut x = Check.hutOf(FULL);
        for (int r = 0; r < 6; r++) held.due("age of relay " + r, x.age(r, r), true);
        held.due("age of a seventh", x.age(6, 0), false);
        x.set(0, true);
        held.due("all come up", x.round(), 63);
        x.set(0, false);
        for (int r = 0; r < 6; r++) held.due("drops by its age " + r, x.round(), 1 << r);
    }

    private void round() {
        held.sentence("`int round()`: A ROUND: RELAYS that changed in it (bits); NONE: no DRAWING.");
        held.unchanged("without a drawing", NONE, h -> { }, RelayHut::round);
        held.due("of nothing", Check.hutOf("").round(), 0);
        RelayHut x = Check.hutOf(FULL);
        held.due("none", x.round(), 0);
        x.set(0, true);
        held.due("all", x.round(), 63);
        held.due("none again", x.round(), 0);
        x.set(0, false);
        held.due("all again", x.round(), 63);
        x.set(4, true);
        held.due("no input of theirs", x.round(), 0);
        RelayHut last = Check.hutOf(FULL.replace("u=a", "u=b"));
        last.set(1, true);
        held.due("the last one alone", last.round(), 32);
    }

    private void clash() {
        held.sentence("`int clash()`: 1 if there was a CLASH in the last ROUND, else 0 (without one, too).");
        held.due("without a drawing", new RelayHut().clash(), 0);
        RelayHut none = new RelayHut();
        none.round();
        held.due("a round without a drawing is none", none.clash(), 0);
        RelayHut x = Check.hutOf("key k;relay r=k;relay s=k|r&k;");
        held.due("without a round", x.clash(), 0);
        x.set(0, true);
        held.due("without a round", x.clash(), 0);
        x.round();
        held.due("in the last one", x.clash(), 1);
        x.set(0, false);
        held.due("still", x.clash(), 1);
        held.due("asked again", x.clash(), 1);
        x.round();
        held.due("both drop", x.clash(), 1);
        x.round();
        held.due("none changes", x.clash(), 0);
    }

    private void hand() {
        held.sentence("`int hand(int what)`: By hand: what 0 INPUTS, 1 RELAYS that are up, 2 LAMPS that show, 3 CONTACTS with STRAPS (how many),"
                + " 4: 1 if it is WRONG, else 0.");
        RelayHut x = Check.hutOf("key k;track t;relay r=k;lamp l=!r;green g=r;never g if t;never g if k&!t;");
        int[][] due = {{0, 0, 1, 0, 0}, {1, 0, 1, 0, 0}, {1, 1, 2, 0, 1}, {3, 1, 2, 0, 1}, {2, 1, 2, 0, 0}, {2, 0, 1, 0, 0}};
        Held.Script[] acts = {h -> { }, h -> h.set(0, true), RelayHut::round, h -> h.set(1, true), h -> h.set(0, false), RelayHut::round};
        for (int i = 0; i < acts.length; i++) {
            acts[i].on(x);
            for (int what = 0; what < 5; what++) held.due("hand " + what + " behind act " + i, x.hand(what), due[i][what]);
        }
        x.strap(2, true);
        int[] strapped = {2, 0, 3, 1, 0};
        for (int what = 0; what < 5; what++) held.due("with a strap on g: hand " + what, x.hand(what), strapped[what]);
        x.set(1, false);
        held.due("WRONG by a strap, though r is down", x.hand(4), 1);
        held.due("a lamp is never WRONG", Check.hutOf("key k;lamp l=!k;green g=k;never g if !k;").hand(4), 0);
        RelayHut full = Check.hutOf("key k;relay r=" + TextBounds.row("k", 40) + ";");
        for (int k = 0; k < 40; k++) full.strap(k, true);
        held.due("40 straps", full.hand(3), 40);
        held.sentence("NONE for others, without a DRAWING.");
        for (int what : new int[] {-1, 5, 6, 10, LEAST, MOST}) held.due("hand " + what, x.hand(what), NONE);
        for (int what = -1; what < 6; what++) held.due("hand " + what, new RelayHut().hand(what), NONE);
        for (int what = 0; what < 5; what++) held.due("of nothing: hand " + what, Check.hutOf("").hand(what), 0);
    }

    private void calls() {
        held.sentence("An object is used for at most 512 calls after it has been made;");
        RelayHut x = new RelayHut();
        int calls = 0;
        for (int i = 0; i < 99; i++, calls++) x.feed(0x20202020, 0x20202020, 0x20202020, 0x20202020, 0x20202020);
        // "key k;relay r=k;    "
        x.feed(0x6b657920, 0x6b3b7265, 0x6c617920, 0x723d6b3b, 0x20202020);
        held.due("the 101st is a read", x.read(), 0);
        calls += 2;
        for (; calls < 509; calls += 2) {
            boolean on = calls % 4 == 1;
            x.set(0, on);
            held.due("call " + (calls + 2), x.round(), 1);
        }
        held.due("so many", calls, 509);
        held.due("the 510th", x.suite(), 0);
        held.due("the 511th", x.hidden(), 4);
        held.due("the 512th", x.pairs(0), 0);
    }
}
