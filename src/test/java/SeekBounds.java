import java.util.List;

/** The boundaries of "III.": tests that see flaws, the suite, and which flaws are BAD, alone or in pairs. */
final class SeekBounds {
    private static final int NONE = -1;
    private static final int LEAST = Integer.MIN_VALUE;
    private static final int MOST = Integer.MAX_VALUE;
    private static final String PAIR = "key k;relay r=k;relay s=k;green g=!r&!s;never g if k;";
    private static final String AND = "key a;key b;lamp l=a&b;";
    /** Their flaws need 29, 30, 31 and 33 tests, if there were no bound. */
    private static final String[] SUITES = {
        "key a;key b;track c;key d;track e;relay ra=!c&e|d|!e;relay rb=!d&rc&a|rb;relay rc=e;relay rd=!rb&d|!rb;lamp la=!b|!rd&a|!c;"
                + "lamp lb=rd|!e&!a&ra&d;lamp lc=!b|rd|d&!c&e&ra;lamp ld=!ra;lamp le=a|rc|!b&c|b&d|!rb;",
        "key a;key b;track c;key d;track e;relay ra=a|ra&d|rd&!rb;relay rb=!c|rb|!d&d|a;relay rc=!e&a|rb&a&rc;relay rd=b|rd;"
                + "lamp la=!rc|rd|c;lamp lb=ra;lamp lc=!b;lamp ld=!c&d&ra;lamp le=b&d&!rc|!b&rb&!d|!ra&!c&c|!rd|e;",
        "key a;key b;track c;key d;track e;relay ra=!e&!d&c;relay rb=!c&!b&rc&e&rc&a|rb;relay rc=b|e&rc;relay rd=!rb|rc&e;"
                + "lamp la=rb|a&!c&d;lamp lb=rd&!rc|rc|c&!a|a&d;lamp lc=!b|d&a&rb&e;lamp ld=!ra|rc;lamp le=!e|d&rd|b;",
        "key a;key b;track c;key d;track e;relay ra=!e&!d&!b;relay rb=!c&!b&!d&rc&rc&a|rb;relay rc=b|e&rc;relay rd=!rb|rd&!c;"
                + "lamp la=!rb|!a&!rc|!rd&a&d;lamp lb=rd|!e&!c&!a;lamp lc=!b|c&a&rb;lamp ld=ra;lamp le=rc&!c&d|e|rb&!b;"};
    private static final int[] NEEDED = {29, 30, 31, 33};
    private final Held held;

    private SeekBounds(Held held) {
        this.held = held;
    }

    static void run(Held held) {
        SeekBounds b = new SeekBounds(held);
        b.rows();
        b.seeing();
        b.fewest();
        b.suites();
        b.fullSuites();
        b.singles();
        b.pairs();
        b.pair();
        b.least();
        b.leastAct();
        b.hidden();
        b.suite();
        b.suiteAct();
        b.suiteActs();
    }

    /** The least test for a flaw is just this row of acts. */
    private void test(RelayHut x, int flaw, int... acts) {
        held.due("least " + flaw, x.least(flaw), acts.length);
        for (int i = 0; i < acts.length; i++) held.due("leastAct " + flaw + " " + i, x.leastAct(flaw, i), acts[i]);
        held.due("leastAct " + flaw + " at its end", x.leastAct(flaw, acts.length), NONE);
    }

    private void hidden(RelayHut x, int flaw) {
        held.due("hidden " + flaw, x.least(flaw), -2);
        held.due("no act of hidden " + flaw, x.leastAct(flaw, 0), NONE);
    }

    private void rows() {
        held.sentence("TESTS: rows of 0 to 12 ACTS from START.");
        // the lamp's contacts are 24 and on; sss is up behind acts 8 to 15, ss behind 4 to 7 and 12 to 15, s and m twice and four times as often
        test(Check.hutOf("key k;lamp l=k;"), 0);
        String[] lamps = {"m", "s", "s&!m", "ss", "ss&m", "ss&s", "ss&s&!m", "sss", "sss&m", "sss&s", "sss&s&!m", "sss&ss"};
        for (int acts = 1; acts <= 12; acts++) test(Check.hutOf(PromiseTest.counter(lamps[acts - 1])), 97, new int[acts]);
        String[] late = {"sss&ss&m", "sss&ss&s", "sss&ss&s&!m"};
        for (String lamp : late) {
            RelayHut x = Check.hutOf(PromiseTest.counter(lamp));
            hidden(x, 97);
            hidden(x, 101);
            held.due("though all is reached", x.reached(NONE, NONE), 16);
        }
    }

    private void seeing() {
        held.sentence("A TEST SEES FLAWS if, at START or behind some ACT, the HUT with them and the one without show unlike LAMPS,"
                + " or one is in a RACE and the other not; behind a RACE of both nothing is seen any more.");
        RelayHut lamps = Check.hutOf("key k;lamp l=k;lamp m=!k;");
        test(lamps, 0);
        test(lamps, 5);
        test(lamps, 1, 0);
        test(lamps, 4, 0);
        // a race by the flaw alone, at the start and behind an act
        RelayHut flawed = Check.hutOf("key k;key j;relay r=!r&k&j;");
        test(flawed, 4, 1);
        test(flawed, 8, 0);
        test(Check.hutOf("key k;relay r=!r&k;"), 4);
        // a race without it alone
        test(Check.hutOf("relay r=!r;"), 0);
        test(Check.hutOf("relay r=!r;"), 200);
        test(Check.hutOf("key k;relay r=!r&k;"), 1, 0);
        // of both: at the start, behind the only act, and behind one of two acts
        hidden(Check.hutOf("key k;relay r=!r;lamp l=k;"), 4);
        hidden(Check.hutOf("key k;relay r=!r;lamp l=!k;"), 5);
        hidden(Check.hutOf("key k;relay r=!r&k;lamp l=k;"), 9);
        test(Check.hutOf("key k;relay r=!r&k;lamp l=k;"), 8);
        RelayHut around = Check.hutOf("key k;key j;relay r=k&!r&!j;lamp l=j&k;");
        test(around, 13, 1, 0);
        test(around, 17, 1, 0);
        test(around, 16, 1);
        hidden(Check.hutOf("key k;key j;relay r=k&!r;lamp l=j&k;"), 13);
        // relays that no lamp shows
        hidden(Check.hutOf("key k;relay r=k;lamp l=k;"), 200);
    }

    private void fewest() {
        held.sentence("THE LEAST TEST for a FLAW: the fewest ACTS (12 at most); of these the first by INPUTS; HIDDEN: there is none.");
        RelayHut x = Check.hutOf("key a;key b;key c;key d;key e;lamp l=a&b&c|d&e|b&e;");
        test(x, 1, 0, 1, 2);
        test(x, 13, 3, 4);
        test(x, 25, 1, 4);
        test(x, 17, 3, 4);
        test(x, 12, 4);
        test(x, 20, 4);
        test(x, 0, 1, 2);
        test(x, 4, 0, 2);
        test(x, 8, 0, 1);
        RelayHut order = Check.hutOf("key a;key b;relay r=r|b&!a;lamp l=r&a;");
        test(order, 17, 1, 0);
        RelayHut again = Check.hutOf("key a;key b;relay r=r|b;lamp l=r&!b;");
        test(again, 9, 1, 1);
        // r stays up in one of the two huts alone, which shows with b alone: a, a, b is ahead of a, b, a
        for (int r = 0; r < 6; r++) {
            String ahead = "key a;key b;" + "relay p=p;relay q=q;relay s=s;relay t=t;relay u=u;".substring(0, 10 * r);
            String behind = "relay v=v;relay w=w;relay x=x;relay y=y;relay z=z;".substring(10 * r);
            test(Check.hutOf(ahead + "relay r=r|a&!a;" + behind + "lamp l=r&b&!a;"), 4 * (r + 2), 0, 0, 1);
            test(Check.hutOf(ahead + "relay r=r|a;" + behind + "lamp l=r&b&!a;"), 4 * (r + 1) + 1, 0, 0, 1);
        }
        hidden(Check.hutOf("key a;lamp l=a|a;"), 1);
        hidden(Check.hutOf("key a;lamp l=a&a;"), 0);
        hidden(Check.hutOf("key a;lamp l=a&a;"), 2);
        RelayHut twelve = Check.hutOf(PromiseTest.counter("sss&ss"));
        test(twelve, 101, new int[12]);
        hidden(Check.hutOf(PromiseTest.counter("sss&ss&m")), 105);
    }

    private void tests(RelayHut x, List<List<Integer>> tests) {
        held.due("suite", x.suite(), tests.size());
        int sum = 0;
        for (int k = 0; k < tests.size(); k++) {
            List<Integer> acts = tests.get(k);
            for (int i = 0; i < acts.size(); i++) held.due("suiteAct " + k + " " + i, x.suiteAct(k, i), acts.get(i));
            held.due("suiteAct " + k + " at its end", x.suiteAct(k, acts.size()), NONE);
            sum += acts.size();
        }
        held.due("suiteAct behind the last", x.suiteAct(tests.size(), 0), NONE);
        held.due("suiteActs", x.suiteActs(), sum);
    }

    private void suites() {
        held.sentence("SUITE: FLAW by FLAW (all there are, by their numbers, that are not HIDDEN): if no TEST of it yet SEES it,"
                + " its LEAST TEST comes behind (30 TESTS at most; what is not seen then is left).");
        // a welded: b; a broken: a and b, on whose way b welded is seen, too
        tests(Check.hutOf(AND), List.of(List.of(1), List.of(0, 1)));
        tests(Check.hutOf("key a;key b;lamp l=a|b;"), List.of(List.of(), List.of(0), List.of(1)));
        // two are seen at the start of another one's test
        tests(Check.hutOf("key a;lamp l=!a;lamp m=a;"), List.of(List.of(0)));
        tests(Check.hutOf("key a;relay r=a;"), List.of());
        tests(Check.hutOf(""), List.of());
        // a welded races at the start, a broken does not race behind a; !b welded races or lights l behind b and a;
        // with l's a or !b broken l is dark where it would show, but there both are in a race
        String race = "key a;key b;relay r=a&!r&!b;lamp l=a&!b;";
        tests(Check.hutOf(race), List.of(List.of(), List.of(0), List.of(1, 0)));
        // the hut that is tested starts with r down, and so does the one without flaws
        tests(Check.hutOf("key k;relay r=r;lamp l=r;lamp m=k;"), List.of(List.of(), List.of(0)));
        // whatever was asked for ahead
        for (int f = 0; f < 10; f++) {
            RelayHut x = Check.hutOf(race);
            RelayHut y = Check.hutOf(AND);
            if (f > 4) held.due("hidden ahead", x.hidden() + y.hidden(), x.hidden());
            x.least(x.flaw(f));
            y.least(y.flaw(f % 5));
            tests(x, List.of(List.of(), List.of(0), List.of(1, 0)));
            tests(y, List.of(List.of(1), List.of(0, 1)));
        }
    }

    private void fullSuites() {
        for (int s = 0; s < SUITES.length; s++) {
            RelayHut x = Check.hutOf(SUITES[s]);
            Model model = new Model();
            for (int i = 0; i < SUITES[s].length(); i += 20) {
                model.feed(Check.four(SUITES[s], i), Check.four(SUITES[s], i + 4), Check.four(SUITES[s], i + 8),
                        Check.four(SUITES[s], i + 12), Check.four(SUITES[s], i + 16));
            }
            held.due("read", model.read(), 0);
            held.due("needed", model.suiteTests(1000).size(), NEEDED[s]);
            tests(x, model.suiteTests(30));
            held.due("of " + NEEDED[s], x.suite(), Math.min(30, NEEDED[s]));
        }
    }

    // ==== promises 16 to 24 ====

    private void singles() {
        held.sentence("`int singles()`: How many single FLAWS are BAD.");
        held.due("without a drawing", new RelayHut().singles(), 0);
        held.due("without flaws", Check.hutOf("").singles(), 0);
        held.due("none", Check.hutOf(PAIR).singles(), 0);
        // k broken in r, !r welded, r stuck down
        held.due("three of six", Check.hutOf("key k;relay r=k;green g=!r;never g if k;").singles(), 3);
        // as it is it is BAD: not with g's contact broken
        held.due("all but one", Check.hutOf("key k;green g=k;never g if k;").singles(), 1);
        held.due("all", Check.hutOf("key k;relay r=r;green g=k|!k;never g if k|!k;lamp l=r;").singles(), 11);
        // g's j and !j crossed, or !j welded: wrong by j, though k races
        held.due("a race on the way", Check.hutOf("key k;key j;relay r=k&!r&!j;green g=j&!j;never g if j;").singles(), 2);
        held.due("and one ahead of what is wrong", Check.hutOf("key k;key j;key m;relay r=k&!r&!j&!m;green g=m&!m;never g if m;").singles(), 2);
        RelayHut x = Check.hutOf(PAIR);
        Check.read(x, "key k;relay r=k;green g=!r;never g if k;");
        held.due("of the one at hand", x.singles(), 3);
        x.use(0);
        held.due("of the one at hand again", x.singles(), 0);
    }

    private void pairs() {
        held.sentence("`int pairs(int f)`: How many FLAWS together with FLAW f are BAD, though neither is alone; NONE: no such one.");
        RelayHut x = Check.hutOf(PAIR);
        // k broken in r: with k broken in s, with !r and !s crossed, with !s welded, with s stuck down
        held.due("with 1", x.pairs(1), 4);
        held.due("with 0: r is up all the time", x.pairs(0), 0);
        held.due("with 200", x.pairs(200), 0);
        held.due("with 201", x.pairs(201), 4);
        for (int f : new int[] {NONE, -2, 2, 3, 6, 7, 11, 14, 15, 16, 199, 204, 205, LEAST, MOST}) held.due("no flaw " + f, x.pairs(f), NONE);
        held.due("without a drawing", new RelayHut().pairs(0), NONE);
        RelayHut one = Check.hutOf("key k;relay r=k;green g=!r;never g if k;");
        for (int f : new int[] {0, 1, 4, 5, 200, 201}) held.due("those that are BAD alone don't count, with " + f, one.pairs(f), 0);
        // r's k broken, or its contact welded, and g's j welded: each alone is none
        RelayHut two = Check.hutOf("key k;key j;relay r=k;green g=!r&j;never g if k;");
        held.due("k broken is BAD alone: k and j", two.bad(1, NONE), 2);
        held.due("so it has none", two.pairs(1), 0);
        // by k's weld, j's weld and their cross, any two of them, g shows at the start: j is the same k
        partners("key k;green g=k&k;never g if !k;", 0, 2, 4);
        partners("key k;green g=k&k;never g if !k;", 2, 0, 4);
        partners("key k;green g=k&k;never g if !k;", 4, 0, 2);
        partners("key k;green g=k&k;never g if !k;", 1);
        // j, !j and !j stand in g: wrong by j, though k races; two crosses in a row don't close the last !j by j
        String race = "key k;key j;relay r=k&!r&!j;green g=j&!j&!j;never g if j;";
        partners(race, 14, 20);
        partners(race, 16, 18, 20);
        partners(race, 18, 16, 20);
        partners(race, 20, 14, 16, 18);
        partners(race, 0);
        String ahead = "key k;key j;key m;relay r=k&!r&!j&!m;green g=m&!m&!m;never g if m;";
        partners(ahead, 18, 24);
        partners(ahead, 20, 22, 24);
        partners(ahead, 22, 20, 24);
        partners(ahead, 24, 18, 20, 22);
        // behind k 19 rows of k and !k, and one more k: with the first k welded and k off each cross closes one, and each k's weld
        RelayHut full = Check.hutOf("key k;green g=k&(" + "k&!k|".repeat(19) + "k);never g if !k;");
        held.due("all 39 crosses and 20 welds", full.pairs(0), 59);
        held.due("the first one", full.pair(0, 0), 2);
        held.due("the second one", full.pair(0, 1), 4);
        held.due("the last but one", full.pair(0, 57), 154);
        held.due("the last one", full.pair(0, 58), 156);
        held.due("behind it", full.pair(0, 59), NONE);
        for (int k = 1; k < 40; k++) held.due("with the weld of " + k, full.pair(4 * k, 0), k % 2 == 1 ? 0 : NONE);
        held.due("of the last cross", full.pair(154, 0), 0);
    }

    /** Just these flaws are BAD together with this one, whichever is asked for first. */
    private void partners(String text, int flaw, int... others) {
        RelayHut x = Check.hutOf(text);
        RelayHut y = Check.hutOf(text);
        held.due("pairs " + flaw, x.pairs(flaw), others.length);
        for (int i = 0; i < others.length; i++) held.due("pair " + flaw + " " + i, x.pair(flaw, i), others[i]);
        held.due("pair " + flaw + " behind the last", x.pair(flaw, others.length), NONE);
        for (int i = 0; i < y.count(7); i++) y.pairs(y.flaw(i));
        held.due("pairs of all, then " + flaw, y.pairs(flaw), others.length);
        for (int i = 0; i < others.length; i++) held.due("pairs of all, then " + flaw + " " + i, y.pair(flaw, i), others[i]);
    }

    private void pair() {
        held.sentence("`int pair(int f, int i)`: The i-th of them; NONE: not so many, no such one.");
        RelayHut x = Check.hutOf(PAIR);
        int[] partners = {5, 10, 12, 203};
        for (int i = 0; i < 4; i++) held.due("pair 1 " + i, x.pair(1, i), partners[i]);
        for (int i : new int[] {-1, 4, 5, 200, LEAST, MOST}) {
            held.due("pair 1 " + i, x.pair(1, i), NONE);
            held.due("pair 0 " + i, x.pair(0, i), NONE);
        }
        held.due("pair 0 0", x.pair(0, 0), NONE);
        held.due("the first by their numbers", x.pair(203, 0), 1);
        held.due("the last", x.pair(203, 3), 201);
        for (int f : new int[] {NONE, 2, 3, 204, LEAST, MOST}) held.due("no flaw " + f, x.pair(f, 0), NONE);
        held.due("without a drawing", new RelayHut().pair(0, 0), NONE);
    }

    private static final int[] NO_FLAWS_OF_AND = {NONE, -2, 3, 6, 7, 8, 9, 10, 199, 200, 201, LEAST, MOST};

    private void least() {
        held.sentence("`int least(int f)`: How many ACTS THE LEAST TEST for a FLAW has; -2: it is HIDDEN; NONE: no such one.");
        RelayHut x = Check.hutOf(AND);
        int[][] acts = {{0, 1}, {1, 2}, {2, 1}, {4, 1}, {5, 2}};
        for (int[] a : acts) held.due("least " + a[0], x.least(a[0]), a[1]);
        for (int f : NO_FLAWS_OF_AND) held.due("no flaw " + f, x.least(f), NONE);
        held.due("without a drawing", new RelayHut().least(0), NONE);
        RelayHut y = Check.hutOf("key k;relay r=k;");
        for (int f : new int[] {0, 1, 200, 201}) held.due("without lamps " + f, y.least(f), -2);
        held.due("NONE ahead of -2", y.least(2), NONE);
    }

    private void leastAct() {
        held.sentence("`int leastAct(int f, int i)`: The i-th ACT of it; NONE: not so many, HIDDEN, no such one.");
        RelayHut x = Check.hutOf(AND);
        held.due("the first", x.leastAct(1, 0), 0);
        held.due("the second", x.leastAct(1, 1), 1);
        for (int i : new int[] {-1, 2, 3, 12, 13, 64, LEAST, MOST}) held.due("act " + i, x.leastAct(1, i), NONE);
        for (int f : NO_FLAWS_OF_AND) held.due("no flaw " + f, x.leastAct(f, 0), NONE);
        held.due("without a drawing", new RelayHut().leastAct(0, 0), NONE);
        for (int i = -1; i < 2; i++) {
            held.due("hidden", Check.hutOf("key k;relay r=k;").leastAct(0, i), NONE);
            held.due("no acts", Check.hutOf("key k;lamp l=k;").leastAct(0, i), NONE);
        }
        RelayHut twelve = Check.hutOf(PromiseTest.counter("sss&ss").replace("key a;", "key b;key c;key d;key e;key a;"));
        for (int i = 0; i < 12; i++) held.due("of twelve by the last input " + i, twelve.leastAct(101, i), 4);
        held.due("of twelve 12", twelve.leastAct(101, 12), NONE);
        held.due("of twelve -1", twelve.leastAct(101, -1), NONE);
    }

    private void hidden() {
        held.sentence("`int hidden()`: How many FLAWS are HIDDEN.");
        held.due("without a drawing", new RelayHut().hidden(), 0);
        held.due("without flaws", Check.hutOf("").hidden(), 0);
        held.due("none", Check.hutOf(AND).hidden(), 0);
        held.due("all", Check.hutOf("key k;relay r=k;").hidden(), 4);
        // either contact welded, and their cross
        held.due("three of five", Check.hutOf("key a;lamp l=a&a;").hidden(), 3);
        RelayHut late = Check.hutOf(PromiseTest.counter("sss&ss&m"));
        RelayHut soon = Check.hutOf(PromiseTest.counter("sss&ss"));
        int there = 0;
        for (int i = 0; i < soon.count(7); i++) there += soon.least(soon.flaw(i)) == -2 ? 1 : 0;
        held.due("those that least() tells", soon.hidden(), there);
        held.due("12 acts are not hidden", soon.hidden() < late.hidden(), true);
    }

    private void suite() {
        held.sentence("`int suite()`: How many TESTS the SUITE has.");
        held.due("without a drawing", new RelayHut().suite(), 0);
        held.due("all hidden", Check.hutOf("key k;relay r=k;").suite(), 0);
        held.due("one without acts", Check.hutOf(PAIR).suite(), 1);
        RelayHut x = Check.hutOf(AND);
        Check.read(x, "key k;relay r=k;");
        held.due("of the one at hand", x.suite(), 0);
        x.use(0);
        held.due("of the one at hand again", x.suite(), 2);
    }

    private void suiteAct() {
        held.sentence("`int suiteAct(int k, int i)`: The i-th ACT of its k-th TEST; NONE: no such ones.");
        RelayHut x = Check.hutOf(AND);
        held.due("0 0", x.suiteAct(0, 0), 1);
        held.due("1 0", x.suiteAct(1, 0), 0);
        held.due("1 1", x.suiteAct(1, 1), 1);
        int[][] none = {{0, 1}, {0, -1}, {1, 2}, {1, -1}, {2, 0}, {3, 0}, {-1, 0}, {30, 0}, {LEAST, 0}, {MOST, 0}, {1, MOST}, {1, LEAST}};
        for (int[] n : none) held.due(n[0] + " " + n[1], x.suiteAct(n[0], n[1]), NONE);
        held.due("without a drawing", new RelayHut().suiteAct(0, 0), NONE);
        held.due("of a test without acts", Check.hutOf(PAIR).suiteAct(0, 0), NONE);
        RelayHut full = Check.hutOf(SUITES[3]);
        held.due("the last of 30", full.suiteAct(29, 0) >= 0, true);
        held.due("behind it", full.suiteAct(30, 0), NONE);
        held.due("far behind it", full.suiteAct(32, 0), NONE);
    }

    private void suiteActs() {
        held.sentence("`int suiteActs()`: How many ACTS all its TESTS have.");
        held.due("without a drawing", new RelayHut().suiteActs(), 0);
        held.due("no tests", Check.hutOf("key k;relay r=k;").suiteActs(), 0);
        held.due("one test without acts", Check.hutOf(PAIR).suiteActs(), 0);
        held.due("1 and 2", Check.hutOf(AND).suiteActs(), 3);
    }
}
