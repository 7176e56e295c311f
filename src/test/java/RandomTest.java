import java.util.Random;

/** Random runs of calls, each answer compared with the model's. */
public final class RandomTest {
    private final Check check = new Check("random runs");
    private RelayHut hut;
    private Model model;
    private Random random;
    private Texts texts;
    private String latest = "key ina;";
    private String run = "";

    public static void main(String[] args) {
        int runs = args.length > 0 ? Integer.parseInt(args[0]) : 600;
        int from = args.length > 1 ? Integer.parseInt(args[1]) : 0;
        RandomTest test = new RandomTest();
        for (int i = from; i < from + runs && test.check.wrong() < 20; i++) {
            test.textRun(i);
            test.callRun(i);
        }
        test.check.end();
    }

    private void begin(String name, int seed) {
        run = name + " " + seed + ": ";
        random = new Random(seed);
        hut = new RelayHut();
        model = new Model();
    }

    private int below(int n) {
        return random.nextInt(n);
    }

    private void due(String call, int got, int want) {
        check.due(run + call, got, want);
    }

    private void due(String call, boolean got, boolean want) {
        check.due(run + call, got, want);
    }

    private void read(String told) {
        String text = told.length() > 2000 ? told.substring(0, 2000) : told;
        hut.back(hut.count(9));
        model.back(model.count(9));
        for (int i = 0; i < text.length(); i += 20) {
            int[] w = new int[5];
            for (int k = 0; k < 5; k++) w[k] = Check.four(text, i + 4 * k);
            due("feed", hut.feed(w[0], w[1], w[2], w[3], w[4]), model.feed(w[0], w[1], w[2], w[3], w[4]));
        }
        int more = hut.count(9) - text.length();
        due("back", hut.back(more), model.back(more));
        due("read of " + text, hut.read(), model.read());
        due("place of " + text, hut.place(), model.place());
        for (int what = -1; what < 11; what++) due("count(" + what + ") of " + text, hut.count(what), model.count(what));
    }

    /** Texts, most of them with faults. */
    private void textRun(int seed) {
        begin("texts", seed);
        texts = new Texts(random, 36);
        for (int i = 0; i < 12; i++) {
            String text = texts.drawing(5, 6, 5);
            read(i % 4 == 3 ? texts.crowd() : texts.spoilt(text));
            for (int k = -1; k <= hut.count(5); k++)
                for (int what = -1; what < 4; what++) due("contact", hut.contact(k, what), model.contact(k, what));
            for (int k = -1; k <= hut.count(7); k++) due("flaw", hut.flaw(k), model.flaw(k));
        }
    }

    /** All other calls, on small drawings, now and then on greater ones. */
    private void callRun(int seed) {
        begin("calls", seed);
        boolean great = seed % 10 == 0;
        texts = new Texts(random, great ? 30 : 14);
        if (below(10) > 0) tell(great);
        int calls = great ? 40 : 110;
        for (int i = 0; i < calls; i++) {
            if (below(100) < 5) tell(great);
            else one();
        }
    }

    private void tell(boolean great) {
        if (model.count(0) == 0 || below(3) == 0) latest = great ? texts.drawing(5, 6, 5) : texts.drawing(3, 4, 3);
        read(model.count(0) == 0 ? latest : texts.changed(latest));
    }

    private int flaw() {
        int n = hut.count(7);
        if (n <= 0 || below(12) == 0) return below(220) - 5;
        return hut.flaw(below(n));
    }

    private int flawOrNone() {
        return below(3) == 0 ? -1 : flaw();
    }

    private int drawing() {
        return below(20) == 0 ? below(7) - 1 : below(Math.max(1, hut.count(0)));
    }

    private int bits(int count) {
        return below(15) == 0 ? below(70) - 3 : below(1 << Math.max(0, count));
    }

    private void one() {
        switch (below(6)) {
            case 0: ofHut(); break;
            case 1: ofFlaws(); break;
            case 2: ofStages(); break;
            case 3: ofLogs(); break;
            default: byHand();
        }
    }

    private void ofHut() {
        int f = flawOrNone();
        int g = flawOrNone();
        String to = "(" + f + ", " + g + ") of " + latest;
        int in = bits(hut.count(2));
        int up = bits(hut.count(3));
        due("settles " + in + " " + up + to, hut.settles(f, g, in, up), model.settles(f, g, in, up));
        due("shows " + in + " " + up + to, hut.shows(f, g, in, up), model.shows(f, g, in, up));
        switch (below(4)) {
            case 0: due("start" + to, hut.start(f, g), model.start(f, g)); break;
            case 1: due("reached" + to, hut.reached(f, g), model.reached(f, g)); break;
            case 2: due("races" + to, hut.races(f, g), model.races(f, g)); break;
            default:
                due("bad" + to, hut.bad(f, g), model.bad(f, g));
                for (int i = -1; i < 4; i++) due("badAct " + i + to, hut.badAct(f, g, i), model.badAct(f, g, i));
        }
    }

    private void ofFlaws() {
        int f = flaw();
        switch (below(8)) {
            case 0: due("singles", hut.singles(), model.singles()); break;
            case 1:
                due("pairs " + f, hut.pairs(f), model.pairs(f));
                int i = below(4) - 1;
                due("pair " + f, hut.pair(f, i), model.pair(f, i));
                break;
            case 2:
                due("hidden", hut.hidden(), model.hidden());
                break;
            case 3:
                due("suite", hut.suite(), model.suite());
                due("suiteActs", hut.suiteActs(), model.suiteActs());
                for (int n = 0; n < 3; n++) {
                    int k = below(6) - 1;
                    int a = below(4) - 1;
                    due("suiteAct " + k + " " + a + " of " + latest, hut.suiteAct(k, a), model.suiteAct(k, a));
                }
                break;
            default:
                due("least " + f, hut.least(f), model.least(f));
                for (int a = -1; a < 4; a++) due("leastAct " + f, hut.leastAct(f, a), model.leastAct(f, a));
        }
    }

    private void ofStages() {
        int a = drawing();
        int b = drawing();
        int unlike = model.unlike(a, b);
        due("unlike", hut.unlike(a, b), unlike);
        int set = below(8) == 0 ? random.nextInt() : random.nextInt() & unlike;
        due("safe", hut.safe(a, b, set), model.safe(a, b, set));
        int k = below(10) == 0 ? below(12) - 2 : 1 + below(3);
        due("plan of " + latest, hut.plan(a, b, k), model.plan(a, b, k));
        for (int i = -1; i < 3; i++) due("stage", hut.stage(a, b, k, i), model.stage(a, b, k, i));
    }

    private void ofLogs() {
        int f = flawOrNone();
        int n = below(10) == 0 ? below(45) - 2 : below(hut.count(8) + 1);
        switch (below(6)) {
            case 0: {
                int acts = below(7);
                int digits = below(5) == 0 ? below(20000) - 10 : 0;
                int power = 1;
                int lamps = below(10) == 0 ? bits(hut.count(4)) : 0;
                int in = 0;
                int up = model.start(f, -1);
                for (int i = 0; digits == 0 && i < acts && hut.count(2) > 0; i++, power *= 5) digits += power * below(hut.count(2));
                for (int i = 0, rest = digits; i < acts && up >= 0 && digits >= 0; i++, rest /= 5) {
                    in ^= 1 << rest % 5;
                    up = model.settles(f, -1, in, up);
                }
                if (up >= 0 && model.shows(f, -1, in, up) >= 0) lamps = model.shows(f, -1, in, up);
                due("log", hut.log(acts, digits, lamps), model.log(acts, digits, lamps));
                break;
            }
            case 1: {
                int of = below(12) - 1;
                if (below(3) == 0) due("annul " + of, hut.annul(of), model.annul(of));
                break;
            }
            case 2: due("suspects " + n, hut.suspects(n), model.suspects(n)); break;
            case 3: due("next " + n, hut.next(n), model.next(n)); break;
            default: due("fits " + f + " " + n, hut.fits(f, n), model.fits(f, n));
        }
    }

    private void byHand() {
        boolean on = random.nextBoolean();
        switch (below(12)) {
            case 0: {
                int k = bits(2);
                due("strap", hut.strap(k, on), model.strap(k, on));
                break;
            }
            case 1: {
                int r = below(8) - 1;
                int v = below(4) == 0 ? below(14) - 2 : below(3);
                due("age", hut.age(r, v), model.age(r, v));
                break;
            }
            case 2:
                if (below(4) == 0) {
                    int d = drawing();
                    due("use", hut.use(d), model.use(d));
                }
                break;
            case 3: case 4: case 5: {
                int i = below(12) == 0 ? below(9) - 2 : below(Math.max(1, hut.count(2)));
                due("set", hut.set(i, on), model.set(i, on));
                break;
            }
            default:
                due("round of " + latest, hut.round(), model.round());
        }
        due("clash of " + latest, hut.clash(), model.clash());
        for (int what = -1; what < 6; what++) due("hand " + what, hut.hand(what), model.hand(what));
    }
}
