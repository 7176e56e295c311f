import java.io.IOException;
import java.nio.file.Files;
import java.nio.file.Path;
import java.util.ArrayList;
import java.util.Arrays;
import java.util.List;

/** Checks that say which sentence of the document they hold, in its own words. */
final class Held {
    /** What is done with a hut ahead of the call that is looked at. */
    interface Script {
        void on(RelayHut hut);
    }

    /** One call, its answer as a number (a boolean counts 1 or 0). */
    interface Call {
        int on(RelayHut hut);
    }

    private static final int NONE = -1;
    private final Check check = new Check("boundaries");
    private final String document;
    private final boolean[] quoted;
    private String sentence = "";

    Held() throws IOException {
        document = Files.readString(Path.of("../shared/DOC.md")).replaceAll("\\s+", " ");
        quoted = new boolean[document.length()];
    }

    /** The sentence that the checks from here on hold: its words stand in the document, and there once. */
    void sentence(String words) {
        sentence = words;
        int at = document.indexOf(words);
        check.due("the document says it once: " + words, at >= 0 && document.indexOf(words, at + 1) < 0, true);
        if (at >= 0) Arrays.fill(quoted, at, at + words.length(), true);
    }

    void due(String call, int got, int want) {
        check.due("[" + sentence + "] " + call, got, want);
    }

    void due(String call, boolean got, boolean want) {
        due(call, got ? 1 : 0, want ? 1 : 0);
    }

    /** A text on a new hut has this fault there, and only a text without one is a drawing. */
    void fault(String text, int number, int place) {
        RelayHut x = new RelayHut();
        String told = text.length() > 200 ? text.substring(0, 90) + " .. " + text.substring(text.length() - 90) : text;
        due("read of " + told, Check.read(x, text), number);
        due("place in " + told, x.place(), place);
        due("drawings by " + told, x.count(0), number == 0 ? 1 : 0);
    }

    void good(String text) {
        fault(text, 0, NONE);
    }

    /** The fault stands where the mark # is, which goes ahead of reading. */
    void fault(int number, String marked) {
        int place = marked.indexOf('#');
        fault(marked.substring(0, place) + marked.substring(place + 1), number, place);
    }

    /** A call answers so and changes nothing: a hut on which it was called goes on as one without it. */
    void unchanged(String call, int want, Script script, Call refused) {
        RelayHut tried = hutBy(script);
        RelayHut plain = hutBy(script);
        due(call, refused.on(tried), want);
        due(call + " leaves place()", tried.place(), plain.place());
        goesOnAlike(call, tried, plain);
    }

    private static RelayHut hutBy(Script script) {
        RelayHut hut = new RelayHut();
        script.on(hut);
        return hut;
    }

    /** Whether two huts answer alike whatever is asked; each step is told by its number. */
    void goesOnAlike(String call, RelayHut tried, RelayHut plain) {
        List<Integer> got = answers(tried);
        List<Integer> want = answers(plain);
        due(call + ": as many answers", got.size(), want.size());
        for (int i = 0; i < Math.min(got.size(), want.size()); i++) {
            if (!got.get(i).equals(want.get(i))) {
                due(call + ": then answer " + i, got.get(i), want.get(i));
                return;
            }
        }
    }

    /** What a hut answers from here on: first what can be asked, then what its state makes of further calls. */
    private static List<Integer> answers(RelayHut x) {
        List<Integer> all = new ArrayList<>();
        for (int what = 0; what < 10; what++) all.add(x.count(what));
        for (int what = 0; what < 5; what++) all.add(x.hand(what));
        all.add(x.clash());
        for (int i = 0; i < Math.min(9, x.count(7)); i++) all.add(x.flaw(i));
        for (int i = 0; i < Math.min(9, x.count(5)); i++) all.add(x.contact(i, 1));
        all.addAll(List.of(x.start(NONE, NONE), x.reached(NONE, NONE), x.bad(NONE, NONE), x.suite()));
        for (int a = 0; a < x.count(0); a++) all.add(x.plan(a, x.count(0) - 1, 1));
        for (int n = 0; n <= x.count(8); n += 1 + n / 4) all.addAll(List.of(x.suspects(n), x.fits(NONE, n), x.next(n)));
        rounds(x, all);
        // twice the other way round: what is up may drop, by its age
        for (int times = 0; times < 2; times++) {
            for (int i = 0; i < x.count(2); i++) x.set(i, (x.hand(0) >> i & 1) == 0);
            rounds(x, all);
        }
        all.add(x.annul(0));
        all.add(x.log(0, 0, 0));
        all.addAll(List.of(x.back(3), x.feed(0, 0, 0, 0, 0), x.back(20), x.read(), x.place(), x.count(9)));
        return all;
    }

    private static void rounds(RelayHut x, List<Integer> all) {
        for (int i = 0; i < 20; i++) all.addAll(List.of(x.round(), x.clash(), x.hand(2)));
    }

    /** Each word of the document's promises, and of the terms that they use, is held by some check. */
    void holdsAll() {
        sentence = "";
        int from = document.indexOf("## Terms");
        int to = document.indexOf("## Not promised");
        for (int i = from; i < to; i++) {
            boolean letter = Character.isLetterOrDigit(document.charAt(i));
            if (letter && !quoted[i] && !isHead(i)) {
                due("no check holds: " + document.substring(i, Math.min(to, i + 60)), 0, 1);
                i += 60;
            }
        }
    }

    /** The heads (of promises: up to their first method) and the marks of a text say nothing to be held. */
    private boolean isHead(int at) {
        int head = document.lastIndexOf("## ", at);
        int line = document.indexOf("`", head + 3);
        int mark = document.lastIndexOf("```text", at);
        return line > at && document.startsWith("## Promise", head) || document.startsWith("## Terms", head) && at < head + 8
                || mark >= 0 && at < mark + 7;
    }

    void end() {
        check.end();
    }
}
