/** Counts answers that are not the due ones, and feeds texts to huts. */
final class Check {
    private final String about;
    private int calls;
    private int wrong;

    Check(String about) {
        this.about = about;
    }

    void due(String call, long got, long want) {
        calls++;
        if (got != want) {
            wrong++;
            System.out.println(about + ": " + call + " answered " + got + ", due is " + want);
        }
    }

    void due(String call, boolean got, boolean want) {
        due(call, got ? 1 : 0, want ? 1 : 0);
    }

    int wrong() {
        return wrong;
    }

    /** Tells the sum, and ends the test with 1 if an answer was wrong. */
    void end() {
        System.out.println(about + ": " + calls + " answers, " + wrong + " not as due");
        if (wrong != 0) {
            System.exit(1);
        }
    }

    /** The four bytes of a text from a place on as one number; blanks behind its end. */
    static int four(String text, int from) {
        int number = 0;
        for (int i = from; i < from + 4; i++) {
            number = number << 8 | (i < text.length() ? text.charAt(i) & 255 : ' ');
        }
        return number;
    }

    /** Puts just this text on the tape. */
    static void feed(RelayHut hut, String text) {
        hut.back(hut.count(9));
        for (int i = 0; i < text.length(); i += 20) {
            hut.feed(four(text, i), four(text, i + 4), four(text, i + 8), four(text, i + 12), four(text, i + 16));
        }
        hut.back(hut.count(9) - text.length());
    }

    /** A hut that has read this text. */
    static RelayHut hutOf(String text) {
        RelayHut hut = new RelayHut();
        read(hut, text);
        return hut;
    }

    static int read(RelayHut hut, String text) {
        feed(hut, text);
        return hut.read();
    }
}
