import java.util.ArrayList;
import java.util.Arrays;
import java.util.HashMap;
import java.util.HashSet;
import java.util.LinkedHashSet;
import java.util.List;
import java.util.Map;
import java.util.Set;
import java.util.TreeMap;

/** The document once more, as plainly and slowly as it can be said: answers to compare the class with. */
final class Model {
    static final int NONE = -1;

    /** A fault of a text. */
    private static final class Fault extends RuntimeException {
        private static final long serialVersionUID = 1L;
        final int number;
        final int place;

        Fault(int number, int place) {
            super(null, null, false, false);
            this.number = number;
            this.place = place;
        }
    }

    private record Token(String text, int place, boolean good) {
        boolean isName() {
            return good && text.matches("[a-z]{1,8}") && !WORDS.contains(text);
        }

        boolean isInt() {
            return good && text.matches("[0-9]{1,4}");
        }

        boolean is(String sign) {
            return good && text.equals(sign);
        }
    }

    private static final Set<String> WORDS = Set.of("key", "track", "relay", "slow", "lamp", "green", "never", "if");

    /** A part of a circuit: a contact (kids is null), or all (&) or one (|) of its kids. */
    private static final class Part {
        boolean all;
        List<Part> kids;
        Token name;
        boolean not;
        int contact = NONE;
    }

    private static final class Item {
        String sort;
        String name;
        int slow;
        Part circuit;
        List<String> tokens = new ArrayList<>();
        int number;
        /** In the text's order: how many things are told ahead of it. */
        int place;
    }

    private static final class Plot {
        List<Item> inputs = new ArrayList<>();
        List<Item> relays = new ArrayList<>();
        List<Item> lamps = new ArrayList<>();
        List<Item> nevers = new ArrayList<>();
        List<Part> contacts = new ArrayList<>();
        List<Integer> owners = new ArrayList<>();
        List<Integer> flaws = new ArrayList<>();

        Item named(String name) {
            for (Item i : inputs) if (i.name.equals(name)) return i;
            for (Item r : relays) if (r.name.equals(name)) return r;
            return null;
        }
    }

    // ==== texts ====

    private static List<Token> cut(String text) {
        List<Token> tokens = new ArrayList<>();
        int at = 0;
        while (at < text.length()) {
            char c = text.charAt(at);
            int end = at + 1;
            if (c == 9 || c == 10 || c == 13 || c == 32) {
                at++;
                continue;
            }
            if (c >= 'a' && c <= 'z') {
                while (end < text.length() && text.charAt(end) >= 'a' && text.charAt(end) <= 'z') end++;
                tokens.add(new Token(text.substring(at, end), at, end - at <= 8));
            } else if (c >= '0' && c <= '9') {
                while (end < text.length() && text.charAt(end) >= '0' && text.charAt(end) <= '9') end++;
                tokens.add(new Token(text.substring(at, end), at, end - at <= 4));
            } else {
                tokens.add(new Token(text.substring(at, end), at, ";=!&|()".indexOf(c) >= 0));
            }
            at = end;
        }
        return tokens;
    }

    /** Reads by the grammar, one method a rule. */
    private static final class Parser {
        final List<Token> tokens;
        final int length;
        int at;
        int depth;
        final Plot plot = new Plot();
        final List<Fault> later = new ArrayList<>();
        Item item;
        int owner;

        Parser(String text) {
            tokens = cut(text);
            length = text.length();
        }

        Token look() {
            return at < tokens.size() ? tokens.get(at) : new Token("", length, false);
        }

        Token take(boolean fits) {
            Token t = look();
            if (!fits) throw new Fault(1, t.place);
            if (at >= 400) throw new Fault(2, t.place);
            at++;
            return t;
        }

        Token sign(String s) {
            return take(look().is(s));
        }

        void room(int have, int most) {
            if (have >= most) throw new Fault(2, look().place);
        }

        Plot parse() {
            while (at < tokens.size()) tell();
            return plot;
        }

        void tell() {
            Token t = look();
            item = new Item();
            item.place = at;
            item.sort = t.text;
            if (t.is("key") || t.is("track")) {
                begin(plot.inputs, 5);
                item.name = take(look().isName()).text;
            } else if (t.is("relay")) {
                begin(plot.relays, 6);
                item.name = take(look().isName()).text;
                if (look().is("slow")) {
                    sign("slow");
                    item.slow = Integer.parseInt(take(look().isInt()).text);
                }
                circuit("=", item.number);
            } else if (t.is("lamp") || t.is("green")) {
                begin(plot.lamps, 5);
                item.name = take(look().isName()).text;
                circuit("=", 10 + item.number);
            } else if (t.is("never")) {
                begin(plot.nevers, 6);
                item.name = take(look().isName()).text;
                circuit("if", NONE);
            } else {
                throw new Fault(1, t.place);
            }
            sign(";");
        }

        void begin(List<Item> list, int most) {
            room(list.size(), most);
            take(true);
            item.number = list.size();
            list.add(item);
        }

        void circuit(String ahead, int of) {
            sign(ahead);
            owner = of;
            int from = at;
            item.circuit = any();
            for (int i = from; i < at; i++) item.tokens.add(tokens.get(i).text);
        }

        Part any() {
            Part p = new Part();
            p.kids = new ArrayList<>(List.of(every()));
            while (look().is("|")) {
                sign("|");
                p.kids.add(every());
            }
            return p;
        }

        Part every() {
            Part p = new Part();
            p.all = true;
            p.kids = new ArrayList<>(List.of(unit()));
            while (look().is("&")) {
                sign("&");
                p.kids.add(unit());
            }
            return p;
        }

        Part unit() {
            if (look().is("(")) {
                room(depth, 4);
                sign("(");
                depth++;
                Part p = any();
                depth--;
                sign(")");
                return p;
            }
            Part p = new Part();
            if (look().is("!")) {
                sign("!");
                p.not = true;
            }
            if (look().isName() && owner != NONE) room(plot.contacts.size(), 40);
            p.name = take(look().isName());
            if (owner != NONE) {
                p.contact = plot.contacts.size();
                plot.contacts.add(p);
                plot.owners.add(owner);
            }
            return p;
        }
    }

    private static void names(Part p, List<Token> to) {
        if (p.kids == null) to.add(p.name);
        else for (Part k : p.kids) names(k, to);
    }

    /** All faults behind those of syntax and room, by place and number. */
    private static void judge(Plot plot, List<Token> tokens) {
        TreeMap<Integer, Integer> faults = new TreeMap<>();
        List<Item> all = new ArrayList<>(plot.inputs);
        all.addAll(plot.relays);
        all.addAll(plot.lamps);
        for (Item a : all)
            for (Item b : all)
                if (b.place < a.place && b.name.equals(a.name)) faults.merge(tokens.get(a.place + 1).place, 3, Math::min);
        for (Item r : plot.relays)
            if (r.slow > 9) faults.merge(tokens.get(r.place + 3).place, 5, Math::min);
        all.addAll(plot.nevers);
        for (Item i : all) {
            if (i.circuit == null) continue;
            List<Token> used = new ArrayList<>();
            names(i.circuit, used);
            for (Token t : used) if (plot.named(t.text) == null) faults.merge(t.place, 4, Math::min);
        }
        for (Item n : plot.nevers) {
            boolean found = false;
            for (Item l : plot.lamps) found |= l.sort.equals("green") && l.place < n.place && l.name.equals(n.name);
            if (!found) faults.merge(tokens.get(n.place + 1).place, 4, Math::min);
        }
        if (!faults.isEmpty()) throw new Fault(faults.firstEntry().getValue(), faults.firstKey());
    }

    private static void listFlaws(Plot plot) {
        for (int k = 0; k < plot.contacts.size(); k++) {
            plot.flaws.add(4 * k);
            plot.flaws.add(4 * k + 1);
            if (k + 1 < plot.contacts.size() && plot.owners.get(k).equals(plot.owners.get(k + 1))) plot.flaws.add(4 * k + 2);
        }
        for (int r = 0; r < plot.relays.size(); r++) {
            plot.flaws.add(200 + 2 * r);
            plot.flaws.add(201 + 2 * r);
        }
    }

    // ==== huts ====

    /** A plot with some circuits of another one, the other one's nevers, and flaws. */
    private static final class House {
        final Plot plot;
        final List<Part> relays = new ArrayList<>();
        final List<Part> lamps = new ArrayList<>();
        final List<Item> nevers;
        final Set<Integer> flaws = new HashSet<>();
        final Map<Integer, Integer> known = new HashMap<>();

        House(Plot a, Plot b, int set, int f, int g) {
            plot = a;
            for (Item r : a.relays) relays.add(((set >> r.number & 1) != 0 ? b.relays.get(r.number) : r).circuit);
            for (Item l : a.lamps) lamps.add(((set >> 6 + l.number & 1) != 0 ? b.lamps.get(l.number) : l).circuit);
            nevers = b.nevers;
            if (f != NONE) flaws.add(f);
            if (g != NONE) flaws.add(g);
        }

        boolean plain(Part p, int inputs, int relays) {
            Item of = plot.named(p.name.text);
            boolean on = of.sort.equals("relay") ? (relays >> of.number & 1) != 0 : (inputs >> of.number & 1) != 0;
            return on != of.sort.equals("track") != p.not;
        }

        boolean uncrossed(int k, int inputs, int relays) {
            if (flaws.contains(4 * k)) return true;
            if (flaws.contains(4 * k + 1)) return false;
            return plain(plot.contacts.get(k), inputs, relays);
        }

        boolean closed(Part p, int inputs, int relays, boolean flawed) {
            if (p.kids == null) {
                int k = p.contact;
                if (!flawed || k == NONE || flaws.isEmpty()) return plain(p, inputs, relays);
                return uncrossed(k, inputs, relays)
                        || flaws.contains(4 * k + 2) && uncrossed(k + 1, inputs, relays)
                        || k > 0 && flaws.contains(4 * k - 2) && uncrossed(k - 1, inputs, relays);
            }
            for (Part kid : p.kids)
                if (closed(kid, inputs, relays, flawed) != p.all) return !p.all;
            return p.all;
        }

        int put(int state) {
            for (int r = 0; r < relays.size(); r++) {
                if (flaws.contains(200 + 2 * r)) state |= 1 << r;
                else if (flaws.contains(201 + 2 * r)) state &= ~(1 << r);
            }
            return state;
        }

        List<Integer> following(int inputs, int state) {
            List<Integer> quick = new ArrayList<>();
            TreeMap<Integer, List<Integer>> slow = new TreeMap<>();
            for (int r = 0; r < relays.size(); r++) {
                if (flaws.contains(200 + 2 * r) || flaws.contains(201 + 2 * r)) continue;
                boolean up = (state >> r & 1) != 0;
                if (closed(relays.get(r), inputs, state, true) == up) continue;
                int lag = plot.relays.get(r).slow;
                if (!up || lag == 0) quick.add(state ^ 1 << r);
                else slow.computeIfAbsent(lag, x -> new ArrayList<>()).add(state ^ 1 << r);
            }
            if (!quick.isEmpty() || slow.isEmpty()) return quick;
            return slow.firstEntry().getValue();
        }

        /** -2 when ways from here end unlike or meet themselves again. */
        int settle(int inputs, int from) {
            int start = put(from);
            return known.computeIfAbsent(inputs << 6 | start, x -> {
                Set<Integer> ends = new HashSet<>();
                boolean loops = follow(inputs, start, new LinkedHashSet<>(), new HashSet<>(), ends);
                return loops || ends.size() != 1 ? -2 : ends.iterator().next();
            });
        }

        boolean follow(int inputs, int state, Set<Integer> way, Set<Integer> done, Set<Integer> ends) {
            if (way.contains(state)) return true;
            if (!done.add(state)) return false;
            List<Integer> next = following(inputs, state);
            if (next.isEmpty()) ends.add(state);
            way.add(state);
            boolean loops = false;
            for (int n : next) loops |= follow(inputs, n, way, done, ends);
            way.remove(state);
            return loops;
        }

        int lamps(int inputs, int state) {
            int bits = 0;
            for (int l = 0; l < lamps.size(); l++) if (closed(lamps.get(l), inputs, state, true)) bits |= 1 << l;
            return bits;
        }

        boolean wrong(int inputs, int state) {
            return wrongWith(lamps(inputs, state), inputs, state);
        }

        boolean wrongWith(int shown, int inputs, int state) {
            for (Item n : nevers)
                for (Item l : plot.lamps)
                    if (l.name.equals(n.name) && (shown >> l.number & 1) != 0 && closed(n.circuit, inputs, state, false)) return true;
            return false;
        }
    }

    /** Where a row of acts has led. */
    private record Stand(List<Integer> acts, int inputs, int sound, int flawed) {
    }

    private static List<Integer> with(List<Integer> acts, int act) {
        List<Integer> more = new ArrayList<>(acts);
        more.add(act);
        return more;
    }

    /** All that is reached, in the order of the fewest acts, the first by inputs. */
    private List<Stand> reach(House h, int[] races) {
        List<Stand> found = new ArrayList<>();
        int start = h.settle(0, 0);
        races[0] = start < 0 ? 1 : 0;
        if (start >= 0) found.add(new Stand(List.of(), 0, start, 0));
        Set<Integer> seen = new HashSet<>(Set.of(start));
        for (int i = 0; i < found.size(); i++) {
            Stand s = found.get(i);
            for (int a = 0; a < h.plot.inputs.size(); a++) {
                int in = s.inputs ^ 1 << a;
                int to = h.settle(in, s.sound);
                if (to < 0) races[0]++;
                else if (seen.add(in << 6 | to)) found.add(new Stand(with(s.acts, a), in, to, 0));
            }
        }
        return found;
    }

    private List<Integer> wrongWay(House h) {
        for (Stand s : reach(h, new int[1])) if (h.wrong(s.inputs, s.sound)) return s.acts;
        return null;
    }

    /** 0: alike, 1: seen, 2: nothing is seen any more. */
    private static int look(House a, House b, int inputs, int ra, int rb) {
        if (ra < 0 && rb < 0) return 2;
        if (ra < 0 || rb < 0) return 1;
        return a.lamps(inputs, ra) == b.lamps(inputs, rb) ? 0 : 1;
    }

    private List<Integer> leastTest(int f) {
        House a = house(NONE, NONE);
        House b = house(f, NONE);
        int look = look(a, b, 0, a.settle(0, 0), b.settle(0, 0));
        if (look != 0) return look == 1 ? List.of() : null;
        List<Stand> found = new ArrayList<>(List.of(new Stand(List.of(), 0, a.settle(0, 0), b.settle(0, 0))));
        Set<List<Integer>> seen = new HashSet<>();
        for (int i = 0; i < found.size(); i++) {
            Stand s = found.get(i);
            if (s.acts.size() >= 12) return null;
            for (int act = 0; act < at().inputs.size(); act++) {
                int in = s.inputs ^ 1 << act;
                int ra = a.settle(in, s.sound);
                int rb = b.settle(in, s.flawed);
                look = look(a, b, in, ra, rb);
                if (look == 1) return with(s.acts, act);
                if (look == 0 && seen.add(List.of(in, ra, rb))) found.add(new Stand(with(s.acts, act), in, ra, rb));
            }
        }
        return null;
    }

    private boolean sees(List<Integer> test, int f) {
        House a = house(NONE, NONE);
        House b = house(f, NONE);
        int in = 0;
        int ra = a.settle(0, 0);
        int rb = b.settle(0, 0);
        for (int i = 0; ; i++) {
            int look = look(a, b, in, ra, rb);
            if (look != 0) return look == 1;
            if (i == test.size()) return false;
            in ^= 1 << test.get(i);
            ra = a.settle(in, ra);
            rb = b.settle(in, rb);
        }
    }

    private List<List<Integer>> suiteTests() {
        return suiteTests(30);
    }

    List<List<Integer>> suiteTests(int most) {
        List<List<Integer>> tests = new ArrayList<>();
        if (hand < 0) return tests;
        for (int f : at().flaws) {
            List<Integer> least = leastTest(f);
            if (least == null) continue;
            boolean seen = false;
            for (List<Integer> t : tests) seen |= sees(t, f);
            if (!seen && tests.size() < most) tests.add(least);
        }
        return tests;
    }

    // ==== the state ====

    private record Entry(int voidOf, List<Integer> acts, int lamps) {
    }

    private StringBuilder tape = new StringBuilder();
    private int place = NONE;
    private final List<Plot> plots = new ArrayList<>();
    private int hand = NONE;
    private final List<Entry> logs = new ArrayList<>();
    private int inputs;
    private int relays;
    private Set<Integer> straps = new HashSet<>();
    private int[] ages = new int[6];
    /** Of each round that was: the relays that were to drop. */
    private List<Integer> drops = new ArrayList<>();
    private int lastClash;

    private Plot at() {
        return plots.get(hand);
    }

    private House house(int f, int g) {
        return new House(at(), at(), 0, f, g);
    }

    private boolean flaws(int... of) {
        if (hand < 0) return false;
        for (int f : of) if (f != NONE && !at().flaws.contains(f)) return false;
        return true;
    }

    private void toHand(int n) {
        hand = n;
        inputs = 0;
        relays = 0;
        straps = new HashSet<>();
        ages = new int[6];
        drops = new ArrayList<>();
        lastClash = 0;
    }

    int feed(int a, int b, int c, int d, int e) {
        if (tape.length() + 20 > 2000) return NONE;
        for (int v : new int[] {a, b, c, d, e})
            for (int i = 3; i >= 0; i--) tape.append((char) (v >>> 8 * i & 255));
        return tape.length();
    }

    int back(int n) {
        if (n < 0 || n > tape.length()) return NONE;
        tape.setLength(tape.length() - n);
        return tape.length();
    }

    int read() {
        if (plots.size() == 4) return -2;
        String text = tape.toString();
        tape = new StringBuilder();
        place = NONE;
        try {
            Parser parser = new Parser(text);
            Plot plot = parser.parse();
            judge(plot, parser.tokens);
            listFlaws(plot);
            plots.add(plot);
            toHand(plots.size() - 1);
            return 0;
        } catch (Fault f) {
            place = f.place;
            return f.number;
        }
    }

    int place() {
        return place;
    }

    boolean use(int drawing) {
        if (drawing < 0 || drawing >= plots.size()) return false;
        if (drawing != hand) toHand(drawing);
        return true;
    }

    int contact(int k, int what) {
        if (hand < 0 || k < 0 || k >= at().contacts.size() || what < 0 || what > 2) return NONE;
        Part p = at().contacts.get(k);
        Item of = at().named(p.name.text);
        if (what == 0) return at().owners.get(k);
        if (what == 1) return of.sort.equals("relay") ? 10 + of.number : of.number;
        return p.not ? 1 : 0;
    }

    int flaw(int i) {
        return hand < 0 || i < 0 || i >= at().flaws.size() ? NONE : at().flaws.get(i);
    }

    private boolean state(int in, int up) {
        return in >= 0 && in < 1 << at().inputs.size() && up >= 0 && up < 1 << at().relays.size();
    }

    int settles(int f, int g, int in, int up) {
        return flaws(f, g) && state(in, up) ? house(f, g).settle(in, up) : NONE;
    }

    int shows(int f, int g, int in, int up) {
        return flaws(f, g) && state(in, up) ? house(f, g).lamps(in, up) : NONE;
    }

    int start(int f, int g) {
        return flaws(f, g) ? house(f, g).settle(0, 0) : NONE;
    }

    int reached(int f, int g) {
        return flaws(f, g) ? reach(house(f, g), new int[1]).size() : NONE;
    }

    int races(int f, int g) {
        int[] races = new int[1];
        if (!flaws(f, g)) return NONE;
        reach(house(f, g), races);
        return races[0];
    }

    int bad(int f, int g) {
        if (!flaws(f, g)) return NONE;
        List<Integer> way = wrongWay(house(f, g));
        return way == null ? -2 : way.size();
    }

    int badAct(int f, int g, int i) {
        if (!flaws(f, g)) return NONE;
        return item(wrongWay(house(f, g)), i);
    }

    private static int item(List<Integer> list, int i) {
        return list == null || i < 0 || i >= list.size() ? NONE : list.get(i);
    }

    int singles() {
        int n = 0;
        if (hand >= 0) for (int f : at().flaws) if (bad(f, NONE) >= 0) n++;
        return n;
    }

    private List<Integer> partners(int f) {
        List<Integer> list = new ArrayList<>();
        if (bad(f, NONE) < 0)
            for (int g : at().flaws) if (bad(g, NONE) < 0 && bad(f, g) >= 0) list.add(g);
        return list;
    }

    int pairs(int f) {
        return f == NONE || !flaws(f) ? NONE : partners(f).size();
    }

    int pair(int f, int i) {
        return f == NONE || !flaws(f) ? NONE : item(partners(f), i);
    }

    int least(int f) {
        if (f == NONE || !flaws(f)) return NONE;
        List<Integer> test = leastTest(f);
        return test == null ? -2 : test.size();
    }

    int leastAct(int f, int i) {
        return f == NONE || !flaws(f) ? NONE : item(leastTest(f), i);
    }

    int hidden() {
        int n = 0;
        if (hand >= 0) for (int f : at().flaws) if (leastTest(f) == null) n++;
        return n;
    }

    int suite() {
        return suiteTests().size();
    }

    int suiteAct(int k, int i) {
        List<List<Integer>> tests = suiteTests();
        return k < 0 || k >= tests.size() ? NONE : item(tests.get(k), i);
    }

    int suiteActs() {
        int n = 0;
        for (List<Integer> t : suiteTests()) n += t.size();
        return n;
    }

    private static boolean sameItems(List<Item> a, List<Item> b) {
        if (a.size() != b.size()) return false;
        for (int i = 0; i < a.size(); i++) {
            Item x = a.get(i);
            Item y = b.get(i);
            if (!x.name.equals(y.name) || !x.sort.equals(y.sort) || x.slow != y.slow) return false;
        }
        return true;
    }

    int unlike(int a, int b) {
        if (a < 0 || b < 0 || a >= plots.size() || b >= plots.size()) return NONE;
        Plot x = plots.get(a);
        Plot y = plots.get(b);
        if (!sameItems(x.inputs, y.inputs) || !sameItems(x.relays, y.relays) || !sameItems(x.lamps, y.lamps)) return -2;
        int bits = 0;
        for (int r = 0; r < x.relays.size(); r++) if (!x.relays.get(r).tokens.equals(y.relays.get(r).tokens)) bits |= 1 << r;
        for (int l = 0; l < x.lamps.size(); l++) if (!x.lamps.get(l).tokens.equals(y.lamps.get(l).tokens)) bits |= 64 << l;
        return bits;
    }

    int safe(int a, int b, int set) {
        int unlike = unlike(a, b);
        if (unlike < 0) return unlike;
        for (int bit = 0; bit < 32; bit++) if ((set >>> bit & 1) != 0 && (unlike >>> bit & 1) == 0) return NONE;
        House h = new House(plots.get(a), plots.get(b), set, NONE, NONE);
        int[] races = new int[1];
        boolean wrong = false;
        for (Stand s : reach(h, races)) wrong |= h.wrong(s.inputs, s.sound);
        return wrong || races[0] > 0 ? 0 : 1;
    }

    /** The first way from a set to all by so many stages, trying the least sets first; null: none. */
    private List<Integer> way(Map<Integer, Boolean> safe, int unlike, int from, int k, int stages) {
        if (stages == 0) return from == unlike ? List.of() : null;
        for (int to = from + 1; to <= unlike; to++) {
            if ((to & from) != from || (to & ~unlike) != 0 || Integer.bitCount(to ^ from) > k || !safe.get(to)) continue;
            List<Integer> rest = way(safe, unlike, to, k, stages - 1);
            if (rest != null) {
                List<Integer> all = new ArrayList<>(List.of(to));
                all.addAll(rest);
                return all;
            }
        }
        return null;
    }

    private List<Integer> planOf(int a, int b, int k) {
        int unlike = unlike(a, b);
        Map<Integer, Boolean> safe = new HashMap<>();
        for (int s = 0; s <= unlike; s++) if ((s & ~unlike) == 0) safe.put(s, safe(a, b, s) == 1);
        for (int stages = 0; safe.get(0) && stages <= 7; stages++) {
            List<Integer> way = way(safe, unlike, 0, k, stages);
            if (way != null) return way;
        }
        return null;
    }

    int plan(int a, int b, int k) {
        int unlike = unlike(a, b);
        if (unlike == NONE || k < 1 || k > 7) return NONE;
        if (unlike == -2) return -2;
        if (Integer.bitCount(unlike) > 7) return -3;
        List<Integer> plan = planOf(a, b, k);
        return plan == null ? -2 : plan.size();
    }

    int stage(int a, int b, int k, int i) {
        return plan(a, b, k) < 0 ? NONE : item(planOf(a, b, k), i);
    }

    int log(int n, int acts, int lamps) {
        if (logs.size() == 40 || hand < 0 || n < 0 || n > 6 || acts < 0 || lamps < 0) return NONE;
        String digits = Integer.toString(acts, 5);
        if (acts == 0) digits = "";
        if (digits.length() > n || lamps >= 1 << at().lamps.size()) return NONE;
        List<Integer> row = new ArrayList<>();
        for (int i = 0; i < n; i++) {
            int digit = i < digits.length() ? digits.charAt(digits.length() - 1 - i) - '0' : 0;
            if (digit >= at().inputs.size()) return NONE;
            row.add(digit);
        }
        logs.add(new Entry(NONE, row, lamps));
        return logs.size() - 1;
    }

    int annul(int log) {
        if (logs.size() == 40 || log < 0 || log >= logs.size() || logs.get(log).voidOf != NONE) return NONE;
        logs.add(new Entry(log, List.of(), 0));
        return logs.size() - 1;
    }

    private int shown(House h, List<Integer> acts) {
        int in = 0;
        int up = h.settle(0, 0);
        for (int a : acts) {
            if (up < 0) return -2;
            if (a >= at().inputs.size()) continue;
            in ^= 1 << a;
            up = h.settle(in, up);
        }
        return up < 0 ? -2 : h.lamps(in, up);
    }

    int fits(int f, int n) {
        if (!flaws(f) || n < 0 || n > logs.size()) return -2;
        Set<Integer> gone = new HashSet<>();
        for (Entry e : logs.subList(0, n)) gone.add(e.voidOf);
        House h = house(f, NONE);
        for (int i = 0; i < n; i++) {
            Entry e = logs.get(i);
            if (e.voidOf != NONE || gone.contains(i)) continue;
            int shown = shown(h, e.acts);
            if (shown != -2 && shown != e.lamps) return 0;
        }
        return 1;
    }

    private List<Integer> fitting(int n) {
        List<Integer> list = new ArrayList<>();
        if (fits(NONE, n) == 1) list.add(NONE);
        for (int f : at().flaws) if (fits(f, n) == 1) list.add(f);
        return list;
    }

    int suspects(int n) {
        return hand < 0 || n < 0 || n > logs.size() ? NONE : fitting(n).size();
    }

    int next(int n) {
        if (hand < 0 || n < 0 || n > logs.size()) return NONE;
        List<Integer> fitting = fitting(n);
        if (fitting.size() < 2) return -2;
        List<List<Integer>> rows = new ArrayList<>(List.of(List.of()));
        int m = at().inputs.size();
        for (int a = 0; a < m; a++) rows.add(List.of(a));
        for (int a = 0; a < m; a++) for (int b = 0; b < m; b++) rows.add(List.of(a, b));
        int least = Integer.MAX_VALUE;
        int answer = 0;
        Map<Integer, House> houses = new HashMap<>();
        for (int f : fitting) houses.put(f, house(f, NONE));
        for (List<Integer> row : rows) {
            Map<Integer, Integer> groups = new HashMap<>();
            for (int f : fitting) groups.merge(shown(houses.get(f), row), 1, Integer::sum);
            int greatest = groups.values().stream().max(Integer::compare).get();
            if (greatest < least) {
                least = greatest;
                answer = 25 * row.size() + (row.isEmpty() ? 0 : row.get(0)) + (row.size() < 2 ? 0 : 5 * row.get(1));
            }
        }
        return answer;
    }

    // ==== by hand ====

    boolean set(int input, boolean on) {
        if (hand < 0 || input < 0 || input >= at().inputs.size()) return false;
        inputs = inputs & ~(1 << input) | (on ? 1 << input : 0);
        return true;
    }

    boolean strap(int contact, boolean on) {
        if (hand < 0 || contact < 0 || contact >= at().contacts.size()) return false;
        if (on) straps.add(contact);
        else straps.remove(contact);
        return true;
    }

    boolean age(int relay, int v) {
        if (hand < 0 || relay < 0 || relay >= at().relays.size() || v < 0 || v > 9) return false;
        ages[relay] = v;
        return true;
    }

    private boolean strapped(Part p) {
        House h = house(NONE, NONE);
        for (int s : straps) h.flaws.add(4 * s);
        return h.closed(p, inputs, relays, true);
    }

    int round() {
        if (hand < 0) return NONE;
        int changed = 0;
        int toDrop = 0;
        for (Item r : at().relays) {
            boolean up = (relays >> r.number & 1) != 0;
            boolean closed = strapped(r.circuit);
            if (!up && closed) changed |= 1 << r.number;
            if (up && !closed) {
                toDrop |= 1 << r.number;
                int lag = r.slow + ages[r.number];
                boolean drops = this.drops.size() >= lag;
                for (int i = 0; i < lag && drops; i++) drops = (this.drops.get(this.drops.size() - 1 - i) >> r.number & 1) != 0;
                if (drops) changed |= 1 << r.number;
            }
        }
        drops.add(toDrop);
        relays ^= changed;
        lastClash = 0;
        for (int k = 0; k < at().contacts.size(); k++) {
            int owner = contact(k, 0);
            int of = contact(k, 1) - 10;
            if (owner < 10 && of >= 0 && of != owner && (changed >> owner & changed >> of & 1) != 0) lastClash = 1;
        }
        return changed;
    }

    int clash() {
        return lastClash;
    }

    int hand(int what) {
        if (hand < 0) return NONE;
        int shown = 0;
        for (Item l : at().lamps) if (strapped(l.circuit)) shown |= 1 << l.number;
        switch (what) {
            case 0: return inputs;
            case 1: return relays;
            case 2: return shown;
            case 3: return straps.size();
            case 4: return house(NONE, NONE).wrongWith(shown, inputs, relays) ? 1 : 0;
            default: return NONE;
        }
    }

    int count(int what) {
        int[] all = new int[10];
        Arrays.fill(all, NONE);
        all[0] = plots.size();
        all[8] = logs.size();
        all[9] = tape.length();
        if (hand >= 0) {
            all[1] = hand;
            all[2] = at().inputs.size();
            all[3] = at().relays.size();
            all[4] = at().lamps.size();
            all[5] = at().contacts.size();
            all[6] = at().nevers.size();
            all[7] = at().flaws.size();
        }
        return what < 0 || what > 9 ? NONE : all[what];
    }
}
