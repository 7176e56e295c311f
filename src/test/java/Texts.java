import java.util.ArrayList;
import java.util.List;
import java.util.Random;

/** Makes random texts of drawings, and spoils them. */
final class Texts {
    private final Random random;
    private final int mostContacts;
    private int contacts;

    Texts(Random random, int mostContacts) {
        this.random = random;
        this.mostContacts = mostContacts;
    }

    private int below(int n) {
        return random.nextInt(n);
    }

    private boolean chance(int percent) {
        return below(100) < percent;
    }

    private String circuit(List<String> names, int depth, int most) {
        StringBuilder s = new StringBuilder();
        int parts = 1 + below(most);
        for (int i = 0; i < parts; i++) {
            if (i > 0) s.append(chance(50) ? " & " : "|");
            if (depth > 0 && chance(25)) {
                s.append('(').append(circuit(names, depth - 1, most)).append(chance(20) ? "\n)" : ")");
            } else {
                if (chance(35)) s.append(chance(20) ? "! " : "!");
                s.append(names.get(below(names.size())));
                contacts++;
            }
        }
        return s.toString();
    }

    private String small(List<String> names) {
        int before = contacts;
        for (int i = 0; ; i++) {
            String c = circuit(names, i < 5 ? 1 + below(4) : 0, i < 5 ? 3 : 1);
            if (contacts <= mostContacts || i > 20) return c;
            contacts = before;
        }
    }

    /** A drawing with at most so many inputs, relays and lamps. */
    String drawing(int inputs, int relays, int lamps) {
        contacts = 0;
        int ni = below(inputs + 1);
        int nr = below(relays + 1);
        if (ni + nr == 0) ni = 1;
        int nl = below(lamps + 1);
        List<String> names = new ArrayList<>();
        List<String> tells = new ArrayList<>();
        for (int i = 0; i < ni; i++) {
            names.add("in" + (char) ('a' + i));
            tells.add((chance(60) ? "key " : "track ") + names.get(i) + ";");
        }
        for (int r = 0; r < nr; r++) names.add("r" + (char) ('a' + r));
        for (int r = 0; r < nr; r++) {
            String slow = chance(40) ? " slow " + below(chance(50) ? 3 : 10) : "";
            String own = chance(30) ? names.get(ni + r) + (chance(50) ? " & " : " | ") : "";
            if (!own.isEmpty()) contacts++;
            tells.add(below(tells.size() + 1), "relay r" + (char) ('a' + r) + slow + " = " + own + small(names) + ";");
        }
        List<String> greens = new ArrayList<>();
        for (int l = 0; l < nl; l++) {
            String name = "longlam" + (char) ('a' + l);
            if (chance(70)) greens.add(name);
            boolean green = greens.contains(name);
            tells.add(below(tells.size() + 1), (green ? "green " : "lamp ") + name + "=" + small(names) + ";");
        }
        int before = contacts;
        for (int n = 0; n < 6 && !greens.isEmpty() && chance(60); n++) {
            tells.add("never " + greens.get(below(greens.size())) + " if " + circuit(names, 2, 3) + ";");
        }
        contacts = before;
        return String.join(chance(50) ? " " : "\r\n", tells);
    }

    /** A drawing with the same inputs, relays and lamps in which some circuits are others; now and then a slip. */
    String changed(String text) {
        contacts = 0;
        String[] tells = text.split(";\\s*");
        List<String> names = new ArrayList<>();
        for (String t : tells) {
            String[] words = t.trim().split("[ =]+");
            if (words[0].matches("key|track|relay")) names.add(words[1]);
        }
        StringBuilder s = new StringBuilder();
        for (String t : tells) {
            int is = t.indexOf('=');
            if (is >= 0 && chance(50)) t = t.substring(0, is + 1) + small(names);
            if (t.contains(" if ") && chance(30)) continue;
            if (chance(1)) t = t.replace("slow 1", "slow 2").replace("key", "track");
            s.append(t).append(";");
        }
        return s.toString();
    }

    /** The text with some bytes or words of it spoilt. */
    String spoilt(String text) {
        StringBuilder s = new StringBuilder(text);
        String[] bits = {";", "=", "!", "&", "|", "(", ")", "key ", "track ", "relay ", "slow ", "lamp ", "green ", "never ", " if ",
            "a", "abcdefgh", "abcdefghi", "7", "10", "0009", "12345", "A", ".", "\t", "\0", "\u00e9", "ina", "ra", "longlama"};
        int times = 1 + below(3);
        for (int i = 0; i < times; i++) {
            int at = below(s.length() + 1);
            if (chance(40) && at < s.length()) s.delete(at, Math.min(s.length(), at + 1 + below(4)));
            else if (chance(20)) s.setLength(at);
            else s.insert(at, bits[below(bits.length)]);
        }
        return s.toString();
    }

    /** Tells put together at random: many of them, so that room runs out. */
    String crowd() {
        StringBuilder s = new StringBuilder();
        int n = below(60);
        for (int i = 0; i < n && s.length() < 1900; i++) {
            String name = "" + (char) ('a' + below(8)) + (char) ('a' + below(8));
            switch (below(6)) {
                case 0: s.append(chance(50) ? "key " : "track ").append(name); break;
                case 1: s.append("relay ").append(name).append(chance(20) ? "slow" + below(12) : "").append("=").append(rough()); break;
                case 2: s.append("lamp ").append(name).append("=").append(rough()); break;
                case 3: s.append("green ").append(name).append("=").append(rough()); break;
                default: s.append(chance(30) ? "never aa if " + rough() : "key " + name);
            }
            s.append(';');
        }
        return s.toString();
    }

    private String rough() {
        StringBuilder s = new StringBuilder();
        int depth = below(7) - 1;
        for (int i = 0; i < depth; i++) s.append('(');
        int n = 1 + below(chance(20) ? 45 : 4);
        for (int i = 0; i < n; i++) s.append(i > 0 ? "&" : "").append(chance(20) ? "!" : "").append((char) ('a' + below(8))).append((char) ('a' + below(8)));
        for (int i = 0; i < depth; i++) s.append(')');
        return s.toString();
    }
}
