/** The boundaries of "IV.": what is unlike in two drawings, which sets of it are safe, and plans. */
final class StageBounds {
    private static final int NONE = -1;
    private static final int LEAST = Integer.MIN_VALUE;
    private static final int MOST = Integer.MAX_VALUE;
    private static final String PLAIN = "key k;track t;relay r slow 1=k;relay s=k&t;lamp l=r;green g=s;never g if !k;";
    /** Six relays and five lamps, none of them shown where it must not. */
    private static final String MANY = "key k;relay a=k;relay b=k;relay c=k;relay d=k;relay e=k;relay f=k;"
            + "lamp g=k;lamp h=k;lamp i=k;lamp j=k;green m=k;";
    private final Held held;

    private StageBounds(Held held) {
        this.held = held;
    }

    static void run(Held held) {
        StageBounds b = new StageBounds(held);
        b.same();
        b.tokens();
        b.changed();
        b.plans();
        b.unlike();
        b.safe();
        b.plan();
        b.stage();
    }

    private static RelayHut of(String... texts) {
        RelayHut x = new RelayHut();
        for (String text : texts) Check.read(x, text);
        return x;
    }

    private void both(String why, String other, int want) {
        RelayHut x = of(PLAIN, other);
        held.due(why + ": drawings", x.count(0), 2);
        held.due(why, x.unlike(0, 1), want);
        held.due(why + ", the other way", x.unlike(1, 0), want);
    }

    private void same() {
        held.sentence("==== IV. STAGES from a DRAWING to another one with the same INPUTS, RELAYS (and slow), LAMPS (NAMES, sorts, numbers):");
        both("all the same", PLAIN, 0);
        both("an input's name", PLAIN.replace("key k", "key j").replace("=k", "=j").replace("!k", "!j"), -2);
        both("an input's sort", PLAIN.replace("track t", "key t"), -2);
        both("the other input's sort", PLAIN.replace("key k", "track k"), -2);
        both("their numbers", PLAIN.replace("key k;track t;", "track t;key k;"), -2);
        both("one more", PLAIN.replace("track t;", "track t;key u;"), -2);
        both("one less", PLAIN.replace("track t;", "").replace("&t", ""), -2);
        both("a relay's name", PLAIN.replace("relay r", "relay q").replace("l=r", "l=q"), -2);
        both("slow 2", PLAIN.replace("slow 1", "slow 2"), -2);
        both("slow 0", PLAIN.replace("slow 1", "slow 0"), -2);
        both("without slow", PLAIN.replace(" slow 1", ""), -2);
        both("with slow", PLAIN.replace("relay s", "relay s slow 1"), -2);
        both("slow 0 where there was none", PLAIN.replace("relay s", "relay s slow 0"), 0);
        both("slow 0001", PLAIN.replace("slow 1", "slow 0001"), 0);
        both("the relays' numbers", PLAIN.replace("relay r slow 1=k;relay s=k&t;", "relay s=k&t;relay r slow 1=k;"), -2);
        both("one relay more", PLAIN + "relay u=k;", -2);
        both("one relay less", PLAIN.replace("relay s=k&t;", "").replace("g=s", "g=r"), -2);
        both("a lamp's name", PLAIN.replace("lamp l", "lamp m"), -2);
        both("a lamp's sort", PLAIN.replace("lamp l", "green l"), -2);
        both("the other lamp's sort", PLAIN.replace("green g", "lamp g").replace("never g if !k;", ""), -2);
        both("the lamps' numbers", PLAIN.replace("lamp l=r;green g=s;", "green g=s;lamp l=r;"), -2);
        both("one lamp more", PLAIN + "lamp m=k;", -2);
        both("one lamp less", PLAIN.replace("lamp l=r;", ""), -2);
        both("nevers are free", PLAIN.replace("never g if !k;", ""), 0);
        both("other nevers", PLAIN + "never g if k&!t;", 0);
        both("where the sorts stand is free", "relay r slow 1=k;lamp l=r;key k;relay s=k&t;green g=s;track t;", 0);
        RelayHut full = of(MANY, MANY.replace("key k;", "key k;key l;"), MANY.replace("relay f=k;", "relay n=k;"), MANY.replace("green m", "lamp m"));
        for (int i = 1; i < 4; i++) held.due("the last ones " + i, full.unlike(0, i), -2);
    }

    private void tokens() {
        held.sentence("their UNLIKE ones are RELAYS (bit r) and LAMPS (bit 6 + l) whose C is not the same row of TOKENS.");
        String names = "abcdefghijm";
        for (int c = 0; c < 11; c++) {
            RelayHut x = of(MANY, MANY.replace(names.charAt(c) + "=k", names.charAt(c) + "=k&k"));
            held.due("circuit " + c, x.unlike(0, 1), 1 << c);
        }
        held.due("all", of(MANY, MANY.replace("=k", "=!k")).unlike(0, 1), 2047);
        both("in brackets", PLAIN.replace("s=k&t", "s=(k&t)"), 2);
        both("with !", PLAIN.replace("l=r", "l=!r"), 64);
        both("told the other way round", PLAIN.replace("k&t", "t&k"), 2);
        both("| for &", PLAIN.replace("k&t", "k|t"), 2);
        both("shorter", PLAIN.replace("k&t", "k"), 2);
        both("longer", PLAIN.replace("g=s", "g=s&s"), 128);
        both("another name", PLAIN.replace("l=r", "l=s"), 64);
        both("an input for a relay", PLAIN.replace("l=r", "l=k"), 64);
        both("blanks are none", PLAIN.replace("k&t", " k\t&\nt "), 0);
        both("both relays, both lamps", PLAIN.replace("=", "=k|"), 195);
    }

    private void changed() {
        held.sentence("A set of them is changed: RELAYS and LAMPS have the C of the other DRAWING, NEVERS are the other one's;"
                + " it is SAFE if neither something WRONG nor a RACE is REACHED.");
        RelayHut x = of("key k;relay r=k;green g=r;never g if !k;", "key k;relay r=!k;green g=!r;never g if !k;");
        held.due("none", x.safe(0, 1, 0), 1);
        held.due("r alone: g shows with k off", x.safe(0, 1, 1), 0);
        held.due("g alone", x.safe(0, 1, 64), 0);
        held.due("both", x.safe(0, 1, 65), 1);
        held.due("to itself", x.safe(0, 0, 0), 1);
        RelayHut nevers = of("key k;relay r=k;green g=r;never g if !k;", "key k;relay r=k;green g=r;never g if k;");
        held.due("the other one's nevers", nevers.safe(0, 1, 0), 0);
        held.due("the other one's nevers", nevers.safe(1, 0, 0), 1);
        held.due("its own", nevers.safe(1, 1, 0), 0);
        String lit = "key k;relay r=k;green g=k;never g if !k;";
        RelayHut each = of(lit, lit.replace("g=k", "g=!k"), lit.replace("r=k", "r=k&k"), lit.replace("if !k", "if k"));
        for (int i = 0; i < 3; i++) {
            held.due("from a good one", each.safe(0, 2, 0), 1);
            held.due("from a bad one", each.safe(1, 2, 0), 0);
            held.due("from a good one again", each.safe(0, 2, 0), 1);
            held.due("to another one's nevers", each.safe(0, 3, 0), 0);
            held.due("from the bad one to these", each.safe(1, 3, 0), 1);
            held.due("changed", each.safe(1, 2, 64), 1);
            held.due("not changed", each.safe(1, 2, 1), 0);
            held.due("the one at hand by itself: g shows with k", each.bad(NONE, NONE), 1);
        }
        RelayHut race = of("key k;relay r=k;", "key k;relay r=k&!r;", "key k;relay r=!r;", "key k;relay r=!r|k;");
        held.due("a race behind an act", race.safe(0, 1, 1), 0);
        held.due("without it", race.safe(0, 1, 0), 1);
        held.due("without it, from there", race.safe(1, 0, 1), 1);
        held.due("a race at the start", race.safe(0, 2, 1), 0);
        held.due("a race at the start that k would end", race.safe(0, 3, 1), 0);
        RelayHut far = of("key k;key j;relay r=k|r&!j;green g=j;never g if r;", "key k;key j;relay r=k|r&!j;green g=j&k;never g if r;");
        held.due("wrong behind two acts", far.safe(0, 1, 0), 0);
        held.due("changed, too", far.safe(0, 1, 64), 0);
        RelayHut slow = of("key k;relay a slow 2=k|a&!b;relay b slow 1=k;", "key k;relay a slow 2=k|a&!b;relay b slow 1=k&k;");
        held.due("slow counts in stages, too: no race", slow.safe(0, 1, 2), 1);
    }

    private void stages(RelayHut x, int a, int b, int k, int... sets) {
        held.due("plan " + a + " " + b + " " + k, x.plan(a, b, k), sets.length);
        for (int i = 0; i < sets.length; i++) held.due("stage " + i + " with " + k, x.stage(a, b, k, i), sets[i]);
        held.due("stage behind the last with " + k, x.stage(a, b, k, sets.length), NONE);
    }

    private void noPlan(RelayHut x, int a, int b, int k) {
        held.due("no plan " + a + " " + b + " " + k, x.plan(a, b, k), -2);
        held.due("no stage " + a + " " + b + " " + k, x.stage(a, b, k, 0), NONE);
    }

    private static String seven() {
        return MANY.replace("h=k", "h=k&k").replace("i=k", "i=k&k").replace("j=k", "j=k&k").replace("m=k", "m=k&k");
    }

    private void plans() {
        held.sentence("A PLAN with k: the fewest STAGES from none to all UNLIKE ones, each with 1 .. k of them more,"
                + " so that each set on the way (none and all, too) is SAFE; of these the first: the least bits behind the first STAGE, then the second one.");
        RelayHut x = of(seven(), MANY.replace("=k", "=k&k"));
        held.due("seven", x.unlike(0, 1), 127);
        stages(x, 0, 1, 1, 1, 3, 7, 15, 31, 63, 127);
        stages(x, 0, 1, 2, 1, 7, 31, 127);
        stages(x, 0, 1, 3, 1, 15, 127);
        stages(x, 0, 1, 4, 7, 127);
        stages(x, 0, 1, 5, 3, 127);
        stages(x, 0, 1, 6, 1, 127);
        stages(x, 0, 1, 7, 127);
        stages(x, 0, 0, 1);
        stages(x, 0, 0, 7);
        // neither r nor g may be changed alone
        RelayHut both = of("key k;relay r=k;green g=r;never g if !k;", "key k;relay r=!k;green g=!r;never g if !k;");
        noPlan(both, 0, 1, 1);
        stages(both, 0, 1, 2, 65);
        stages(both, 1, 0, 2, 65);
        // r and s together light g with k off, and g's other circuit does so with the first ones
        RelayHut order = of("key k;relay r=k;relay s=k;green g=r&s;never g if !k;", "key k;relay r=!k;relay s=!k;green g=!r&!s;never g if !k;");
        held.due("r and s", order.safe(0, 1, 3), 0);
        held.due("g", order.safe(0, 1, 64), 0);
        stages(order, 0, 1, 1, 1, 65, 67);
        stages(order, 0, 1, 2, 1, 67);
        stages(order, 0, 1, 3, 67);
        stages(order, 1, 0, 1, 1, 65, 67);
        // a race must not be reached on the way
        RelayHut race = of("key k;relay r=k;relay s=r;", "key k;relay r=!s;relay s=k;");
        held.due("r alone races", race.safe(0, 1, 1), 0);
        stages(race, 0, 1, 1, 2, 3);
        stages(race, 0, 1, 2, 3);
        stages(race, 1, 0, 1, 1, 3);
        // none and all must be safe, too
        RelayHut wrong = of("key k;relay r=k;green g=r;never g if !k;", "key k;relay r=k;green g=!k;never g if !k;");
        noPlan(wrong, 0, 1, 1);
        noPlan(wrong, 1, 0, 1);
        noPlan(wrong, 1, 1, 1);
        stages(wrong, 0, 0, 1);
        RelayHut none = of("key k;relay r=k;green g=k;never g if k;", "key k;relay r=k;green g=k;", "key k;relay r=k&k;green g=k;never g if k;");
        stages(none, 0, 1, 1);
        noPlan(none, 1, 0, 1);
        noPlan(none, 0, 2, 1);
        held.due("all are alike, but none of it is safe", none.unlike(1, 0), 0);
        plansAmongSafeSets();
        // from one to another one, and back to the first ones
        String lit = "key k;relay r=k;green g=k;never g if !k;";
        RelayHut each = of(lit, lit.replace("g=k", "g=!k"), lit.replace("r=k", "r=k&k"), lit.replace("g=k", "g=k&k"));
        for (int i = 0; i < 3; i++) {
            stages(each, 0, 2, 1, 1);
            noPlan(each, 1, 2, 1);
            stages(each, 0, 3, 1, 64);
            stages(each, 2, 3, 1, 1, 65);
            stages(each, 2, 3, 2, 65);
            stages(each, 2, 3, 1, 1, 65);
            noPlan(each, 1, 3, 1);
        }
    }

    /** From drawing 0, whose six relays are down, to drawing 1, whose relays are up: just these sets of them are safe. */
    private static RelayHut withSafe(int... sets) {
        String[] names = {"p", "q", "r", "s", "t", "u"};
        StringBuilder never = new StringBuilder("never g if k");
        for (int set : sets) {
            never.append(never.indexOf("(") < 0 ? "|!k&(" : "&(");
            for (int r = 0; r < 6; r++) never.append(r > 0 ? "|" : "").append((set >> r & 1) != 0 ? "!" : "").append(names[r]);
            never.append(')');
        }
        StringBuilder first = new StringBuilder("key k;green g=!k;");
        for (String name : names) first.append("relay ").append(name).append("=k&!k;");
        return of(first.toString(), first.toString().replace("&", "|") + never + ";");
    }

    private void plansAmongSafeSets() {
        RelayHut x = withSafe(0, 1, 3, 15, 63, 48, 49, 55);
        held.due("all six", x.unlike(0, 1), 63);
        for (int set = 0; set < 64; set++) {
            boolean safe = set < 2 || set == 3 || set == 15 || set == 63 || set == 48 || set == 49 || set == 55;
            held.due("set " + set, x.safe(0, 1, set), safe ? 1 : 0);
        }
        noPlan(x, 0, 1, 1);
        // 1 and 48 are on longer ways
        stages(x, 0, 1, 2, 3, 15, 63);
        stages(x, 0, 1, 3, 49, 63);
        stages(x, 0, 1, 4, 3, 63);
        stages(x, 0, 1, 5, 1, 63);
        stages(x, 0, 1, 6, 63);
        // 7 and 15 are on a way that does not begin with two
        RelayHut y = withSafe(0, 7, 15, 48, 60, 63);
        noPlan(y, 0, 1, 1);
        stages(y, 0, 1, 2, 48, 60, 63);
        stages(y, 0, 1, 3, 7, 63);
        stages(y, 0, 1, 4, 7, 63);
        // what is changed stays so: from 7 there is no way to 14 and from there to all
        RelayHut z = withSafe(0, 3, 7, 14, 62, 63);
        noPlan(z, 0, 1, 1);
        noPlan(z, 0, 1, 2);
        stages(z, 0, 1, 3, 7, 63);
        stages(z, 0, 1, 5, 3, 63);
        stages(z, 0, 1, 6, 63);
        // of as many stages the least bits behind the first one, then behind the second one
        RelayHut w = withSafe(0, 5, 6, 13, 14, 30, 37, 45, 53, 63);
        stages(w, 0, 1, 2, 5, 45, 63);
        stages(w, 0, 1, 3, 13, 63);
        stages(w, 0, 1, 4, 5, 63);
    }

    // ==== promises 25 to 28 ====

    private void unlike() {
        held.sentence("`int unlike(int a, int b)`: UNLIKE ones of DRAWING a and b (bits); -2: these have not the same INPUTS, RELAYS, LAMPS; NONE: no such ones.");
        RelayHut x = of(PLAIN, PLAIN.replace("l=r", "l=!r"), "key k;");
        held.due("0 and 1", x.unlike(0, 1), 64);
        held.due("1 and 0", x.unlike(1, 0), 64);
        held.due("0 and 2", x.unlike(0, 2), -2);
        held.due("2 and 2", x.unlike(2, 2), 0);
        for (int n : new int[] {-1, 3, 4, LEAST, MOST}) {
            held.due("0 and " + n, x.unlike(0, n), NONE);
            held.due(n + " and 2", x.unlike(n, 2), NONE);
            held.due(n + " twice", x.unlike(n, n), NONE);
        }
        Check.read(x, "key k;lamp l=k;");
        held.due("2 and 3, now there", x.unlike(2, 3), -2);
        held.due("3 and 4", x.unlike(3, 4), NONE);
        held.due("without a drawing", new RelayHut().unlike(0, 0), NONE);
        x.use(0);
        held.due("whichever is at hand", x.unlike(0, 1), 64);
    }

    private void safe() {
        held.sentence("`int safe(int a, int b, int set)`: 1 if a set of UNLIKE ones, changed, is SAFE, else 0; -2 likewise (whatever the set is);"
                + " NONE: no such ones, others in the set.");
        RelayHut x = of(MANY, MANY.replace("a=k", "a=k&k").replace("m=k", "m=!k"), "key k;", MANY + "never m if k;");
        held.due("unlike", x.unlike(0, 1), 1025);
        for (int set : new int[] {0, 1, 1024, 1025}) held.due("safe " + set, x.safe(0, 1, set), 1);
        for (int set : new int[] {2, 3, 32, 64, 512, 1027, 2048, 2049, -1, LEAST, MOST, LEAST + 1}) held.due("others in " + set, x.safe(0, 1, set), NONE);
        held.due("not safe", x.safe(0, 3, 0), 0);
        held.due("nothing unlike, others in the set", x.safe(0, 3, 1), NONE);
        for (int set : new int[] {0, 1, -1, 2048, LEAST, MOST}) held.due("not the same, with " + set, x.safe(0, 2, set), -2);
        for (int n : new int[] {-1, 4, LEAST, MOST}) {
            held.due("0 and " + n, x.safe(0, n, 0), NONE);
            held.due(n + " and 0", x.safe(n, 0, 0), NONE);
            held.due(n + " and 2", x.safe(n, 2, 0), NONE);
        }
        held.due("without a drawing", new RelayHut().safe(0, 0, 0), NONE);
    }

    private void plan() {
        held.sentence("`int plan(int a, int b, int k)`: A PLAN with k (1 .. 7): how many STAGES; -2: there is none, or likewise;"
                + " -3: more than 7 are UNLIKE; NONE: no such ones.");
        RelayHut x = of(MANY, MANY.replace("=k", "=k&k"), seven(), "key k;");
        held.due("seven unlike", x.plan(2, 1, 1), 7);
        held.due("seven at once", x.plan(2, 1, 7), 1);
        held.due("four unlike", x.plan(0, 2, 1), 4);
        for (int k = 1; k < 8; k++) {
            held.due("eleven unlike " + k, x.plan(0, 1, k), -3);
            held.due("not the same " + k, x.plan(0, 3, k), -2);
            held.due("nothing unlike " + k, x.plan(0, 0, k), 0);
        }
        for (int k : new int[] {0, -1, 8, 9, LEAST, MOST}) {
            held.due("k " + k, x.plan(2, 1, k), NONE);
            held.due("not the same, k " + k, x.plan(0, 3, k), NONE);
            held.due("eleven unlike, k " + k, x.plan(0, 1, k), NONE);
        }
        for (int n : new int[] {-1, 4, LEAST, MOST}) {
            held.due("0 and " + n, x.plan(0, n, 1), NONE);
            held.due(n + " and 0", x.plan(n, 0, 1), NONE);
        }
        held.due("without a drawing", new RelayHut().plan(0, 0, 1), NONE);
        RelayHut eight = of(seven(), MANY.replace("=k", "=k&k").replace("h=k&k", "h=k"));
        held.due("eight unlike", Integer.bitCount(eight.unlike(0, 1)), 8);
        held.due("eight unlike", eight.plan(0, 1, 7), -3);
        RelayHut none = of("key k;relay r=k;green g=k;", "key k;relay r=!r;green g=k;");
        held.due("there is none", none.plan(0, 1, 7), -2);
    }

    private void stage() {
        held.sentence("`int stage(int a, int b, int k, int i)`: The set that is changed behind its i-th STAGE (from 0 on);"
                + " NONE: not so many, no PLAN (plan() below 0), no such ones.");
        RelayHut x = of(seven(), MANY.replace("=k", "=k&k"), MANY.replace("=k", "=!k"), "key k;");
        int[] sets = {1, 3, 7, 15, 31, 63, 127};
        for (int i = 0; i < 7; i++) held.due("stage " + i, x.stage(0, 1, 1, i), sets[i]);
        for (int i : new int[] {-1, 7, 8, LEAST, MOST}) held.due("stage " + i, x.stage(0, 1, 1, i), NONE);
        held.due("of one stage", x.stage(0, 1, 7, 0), 127);
        held.due("of one stage, the next", x.stage(0, 1, 7, 1), NONE);
        held.due("of no stages", x.stage(0, 0, 1, 0), NONE);
        for (int i = -1; i < 2; i++) {
            held.due("more than seven", x.stage(0, 2, 1, i), NONE);
            held.due("not the same", x.stage(0, 3, 1, i), NONE);
            held.due("k 0", x.stage(0, 1, 0, i), NONE);
            held.due("k 8", x.stage(0, 1, 8, i), NONE);
            held.due("no drawing 4", x.stage(0, 4, 1, i), NONE);
            held.due("no drawing -1", x.stage(-1, 0, 1, i), NONE);
            held.due("without a drawing", new RelayHut().stage(0, 0, 1, i), NONE);
        }
    }
}
