/** The boundaries of "I.": the tape, its texts and their faults, drawings, and what count() tells of them. */
final class TextBounds {
    private static final int NONE = -1;
    private static final int BLANKS = 0x20202020;
    private static final String[] WORDS = {"key", "track", "relay", "slow", "lamp", "green", "never", "if"};
    private static final String FIVE = "key a;track b;key c;track d;key e;";
    private static final String SIX = "relay q=r;relay r=r;relay s=r;relay t=r;relay u=r;relay v=r;";
    private static final String LAMPS = "lamp la=r;green lb=r;lamp lc=r;green ld=r;lamp le=r;";
    private final Held held;

    private TextBounds(Held held) {
        this.held = held;
    }

    static void run(Held held) {
        TextBounds b = new TextBounds(held);
        b.bytes();
        b.blanks();
        b.names();
        b.ints();
        b.signs();
        b.grammar();
        b.numbers();
        b.faults();
        b.roomOfTokens();
        b.roomOfThings();
        b.roomOfContacts();
        b.roomOfBrackets();
        b.twice();
        b.nameless();
        b.slow();
        b.textWithFault();
        b.textWithout();
        b.newObject();
        b.feed();
        b.back();
        b.read();
        b.place();
        b.use();
        b.contact();
        b.flaw();
        b.count();
    }

    static String row(String name, int times) {
        return (name + "&").repeat(times - 1) + name;
    }

    // ==== tokens ====

    private void bytes() {
        held.sentence("A TEXT has 2,000 bytes at most.");
        held.good("key k" + " ".repeat(1994) + ";");
        held.good("key k;" + "\n".repeat(1994));
        held.fault("key k" + " ".repeat(1995), 1, 2000);
        held.fault("key k;" + " ".repeat(1993) + "=", 1, 1999);
        held.fault("key k;" + " ".repeat(1993) + "k", 1, 1999);
        RelayHut x = new RelayHut();
        for (int i = 0; i < 100; i++) x.feed(BLANKS, BLANKS, BLANKS, BLANKS, BLANKS);
        held.due("no byte comes behind 2,000", x.feed(BLANKS, BLANKS, BLANKS, BLANKS, BLANKS), NONE);
        held.due("2,000 blanks", x.read(), 0);
    }

    private void blanks() {
        held.sentence("TOKENS, the longest that can be, with blanks (9, 10, 13, 32) between or not:");
        for (char c = 0; c < 256; c++) {
            boolean blank = c == 9 || c == 10 || c == 13 || c == 32;
            boolean letter = c >= 'a' && c <= 'z';
            held.fault("key" + c + "k;", blank ? 0 : 1, blank ? NONE : letter ? 0 : 3);
            held.fault(c + "key k;", blank ? 0 : 1, blank ? NONE : 0);
            held.fault("key k;" + c, blank ? 0 : 1, blank ? NONE : 6);
        }
        held.good("relay r slow3=r&!r|(r);lamp l=!r;");
        held.good("\t relay\r\nr  slow\n3\t=\rr & ! r | ( r ) ; lamp l = ! r ;\n\n");
        held.good("key slows;lamp l=slows;");
        held.fault(1, "#keyk;");
        held.fault(1, "relay r slow 00 #9=r;");
        held.fault(1, "relay r slow #00009=r;");
        held.fault(1, "key k;green g=k;never g #ifk;");
        held.fault(1, "key k;green g=k;never gif #k;");
    }

    private void names() {
        held.sentence("NAMES (letters a .. z, 8 at most, none of the words in quotes),");
        for (char c = 0; c < 256; c++) {
            boolean letter = c >= 'a' && c <= 'z';
            boolean blank = c == 9 || c == 10 || c == 13 || c == 32;
            held.fault("key " + c + ";", letter ? 0 : 1, letter ? NONE : blank ? 5 : 4);
            held.fault("key k" + c + ";", letter || blank ? 0 : 1, letter || blank ? NONE : c == ';' ? 6 : 5);
        }
        for (String name : new String[] {"a", "z", "az", "abcdefg", "abcdefgh", "zzzzzzzz", "aaaaaaaa"}) held.good("key " + name + ";");
        held.good("key abcdefgh;key abcdefgi;key bbcdefgh;lamp l=abcdefgh&abcdefgi&bbcdefgh;");
        held.good("key a;key aa;key z;key az;key ba;lamp l=a|aa|z|az|ba;");
        String[] places = {"key #;", "track #;", "relay #=k;", "lamp #=k;", "green #=k;", "never # if k;", "lamp l=#;", "lamp l=!#;",
            "lamp l=(k&#);", "relay r=k|#;", "green g=k;never g if #;"};
        for (String text : places) {
            for (String word : WORDS) held.fault(1, text.replace("#", "#" + word));
            held.fault(1, text.replace("#", "#abcdefghi"));
            held.fault(1, text.replace("#", "#" + "abcdefgh".repeat(2)));
            held.fault(1, text.replace("#", "#" + "keykeykey".repeat(20)));
        }
        for (String word : WORDS) {
            held.good("key " + word + "s;lamp l=" + word + "s;");
            held.good("key " + word.substring(1) + ";lamp l=" + word.substring(1) + ";");
            held.good("key " + word.substring(0, word.length() - 1) + ";");
        }
    }

    private void ints() {
        held.sentence("INTS (1 to 4 digits),");
        for (String number : new String[] {"0", "9", "00", "09", "009", "0000", "0009"}) held.good("relay r slow " + number + "=r;");
        for (String number : new String[] {"00000", "00009", "12345", "0000000009"}) held.fault(1, "relay r slow #" + number + "=r;");
        for (char c = 0; c < 256; c++) {
            boolean digit = c >= '0' && c <= '9';
            boolean blank = c == 9 || c == 10 || c == 13 || c == 32;
            held.fault("relay r slow " + c + "=r;", digit ? 0 : 1, digit ? NONE : blank ? 14 : 13);
        }
    }

    private void signs() {
        held.sentence("SIGNS ; = ! & | ( ) .");
        held.good("key k;lamp l=!k&(k|k);");
        for (char c = 0; c < 256; c++) {
            boolean blank = c == 9 || c == 10 || c == 13 || c == 32;
            boolean letter = c >= 'a' && c <= 'z';
            String text = "key k;lamp l=k" + c + "k;";
            if (c == '&' || c == '|') held.good(text);
            else if (letter) held.fault(text, 4, 13);
            else held.fault(text, 1, blank || c == ';' ? 15 : 14);
        }
        held.sentence("A longer one, all else, is no TOKEN.");
        held.fault(1, "#abcdefghi");
        held.fault(1, "key #abcdefghi;");
        held.fault(1, "#12345");
        held.fault(1, "key k;#.");
        held.fault(1, "key k;#K");
        held.fault(1, "key k;#\0");
        held.fault(1, "key k;#\u00ff");
        held.fault(1, "key k;#\u00a0");
    }

    // ==== the grammar ====

    private static final String[] TOKENS = {"key", "track", "relay", "slow", "lamp", "green", "never", "if", "a", "7",
        ";", "=", "!", "&", "|", "(", ")", "%", "abcdefghi", "12345", "."};

    /** Behind this beginning just these tokens can follow, and, if END stands among them, the text's end. */
    private void follow(String beginning, String following) {
        String all = " " + following + " ";
        for (String token : TOKENS) {
            String text = beginning + " " + token;
            RelayHut x = new RelayHut();
            int fault = Check.read(x, text);
            boolean refused = fault == 1 && x.place() == beginning.length() + 1;
            held.due(text + " is refused", refused, !all.contains(" " + token + " "));
            boolean whole = token.equals(";");
            if (!refused && !whole) {
                held.due(text + " has no end", fault, 1);
                held.due(text + " has no end, at", x.place(), text.length());
            }
        }
        RelayHut x = new RelayHut();
        boolean whole = all.contains(" END ");
        held.due("the end of " + beginning, Check.read(x, beginning), whole ? 0 : 1);
        held.due("the place of the end of " + beginning, x.place(), whole ? NONE : beginning.length());
    }

    private void grammar() {
        String tell = "key track relay lamp green never END";
        String unit = "a ! (";
        String behind = "& | ;";
        String inside = "& | )";
        held.sentence("text: {TELL}.");
        follow("", tell);
        follow("key a;", tell);
        follow("key a;lamp l=a;", tell);
        held.sentence("TELL: ('key' | 'track') NAME ';' | 'relay' NAME ['slow' INT] '=' C ';' |"
                + " ('lamp' | 'green') NAME '=' C ';' | 'never' NAME 'if' C ';'.");
        for (String sort : new String[] {"key", "track"}) {
            follow(sort, "a");
            follow(sort + " a", ";");
            follow(sort + " a;", tell);
        }
        follow("relay", "a");
        follow("relay r", "slow =");
        follow("relay r slow", "7");
        follow("relay r slow 7", "=");
        follow("relay r slow 7=", unit);
        for (String begun : new String[] {"relay r=", "lamp l=", "green l=", "key a;green g=a;never g if"}) {
            follow(begun, unit);
            follow(begun + " r", behind);
        }
        for (String sort : new String[] {"lamp", "green"}) {
            follow(sort, "a");
            follow(sort + " l", "=");
        }
        follow("never", "a");
        follow("never g", "if");
        held.sentence("C: S {'|' S}.");
        follow("relay r=r|", unit);
        follow("relay r=r|r", behind);
        follow("relay r=r&r|r", behind);
        follow("relay r=r|r|", unit);
        held.sentence("S: U {'&' U}.");
        follow("relay r=r&", unit);
        follow("relay r=r&r", behind);
        follow("relay r=r|r&r", behind);
        follow("relay r=r&r&", unit);
        held.sentence("U: ['!'] NAME | '(' C ')'.");
        follow("relay r=!", "a");
        follow("relay r=!r", behind);
        follow("relay r=(", unit);
        follow("relay r=(!", "a");
        follow("relay r=(r", inside);
        follow("relay r=(!r", inside);
        follow("relay r=(r&", unit);
        follow("relay r=(r|", unit);
        follow("relay r=(r)", behind);
        follow("relay r=((r", inside);
        follow("relay r=((r)", inside);
        follow("relay r=((r))", behind);
        follow("relay r=(r)&", unit);
        follow("relay r=(((", unit);
        follow("relay r=((((r", inside);
        follow("relay r=((((r)", inside);
        follow("relay r=((((r))))", behind);
    }

    private void numbers() {
        held.sentence("INPUTS (key, track), RELAYS, LAMPS (lamp, green), NEVERS are numbered each from 0 on as they stand.");
        RelayHut x = Check.hutOf("lamp a=i;relay p=j;track i;green b=j;key j;relay q=i;never b if i;lamp c=p;track k;relay r=k;green d=q;never d if j;");
        int[] of = {0, 1, 1, 0, 10, 2, 11};
        int[] owner = {10, 0, 11, 1, 12, 2, 13};
        for (int k = 0; k < 7; k++) {
            held.due("contact " + k + " is of", x.contact(k, 1), of[k]);
            held.due("contact " + k + " stands in", x.contact(k, 0), owner[k]);
        }
        held.due("inputs", x.count(2), 3);
        held.due("relays", x.count(3), 3);
        held.due("lamps", x.count(4), 4);
        held.due("nevers", x.count(6), 2);
        held.sentence("CONTACTS are the NAMES (with their ! or not) of the CIRCUITS (C) of RELAYS and LAMPS,"
                + " numbered from 0 on as they stand; NEVERS have none.");
        RelayHut y = Check.hutOf("key k;green g=k&!r;never g if k|k|k;relay r=(!k|(k));never g if !r;lamp l=r;");
        int[] bangs = {0, 1, 1, 0, 0};
        int[] owners = {10, 10, 0, 0, 11};
        held.due("contacts", y.count(5), 5);
        for (int k = 0; k < 5; k++) {
            held.due("contact " + k + " with !", y.contact(k, 2), bangs[k]);
            held.due("contact " + k + " stands in", y.contact(k, 0), owners[k]);
        }
        held.due("none behind the last", y.contact(5, 0), NONE);
    }

    // ==== faults ====

    private void faults() {
        held.sentence("FAULTS of a text, the first by its place (a byte; the text's end: its length), of one place the least:");
        held.fault("key k; track %; lamp %", 1, 13);
        held.fault("key", 1, 3);
        held.fault("key \t\n", 1, 6);
        held.fault("key k", 1, 5);
        held.fault("key k;relay", 1, 11);
        // room ahead of syntax by its place, and behind it
        held.fault(2, FIVE + "#key f;%");
        held.fault(1, FIVE + "#%key f;");
        held.fault(2, "relay r=((((#(r)))));=");
        held.fault(1, "relay r=#=((((((r)))));");
        // of one place: no text goes on with it, and there would be no room for it
        held.fault(1, FIVE + "relay r #key");
        held.fault(1, "relay r=((((r #(");
        held.fault(1, "relay r=" + row("r", 40) + " #r;");
        held.fault(1, FIVE + SIX + LAMPS + "#=");
        held.sentence("1 SYNTAX: a TOKEN, or what is none, with which no text goes on.");
        held.fault(1, "key #;");
        held.fault(1, "key #%;");
        held.fault(1, "key #key;");
        held.fault(1, "#;");
        held.fault(1, "key k;#;");
        held.fault(1, "relay r=(r#;");
        held.fault(1, "relay r=r#);");
        held.fault(1, "relay r=!#!r;");
        held.fault(1, "relay r=!#(r);");
        held.fault("relay r=(r", 1, 10);
    }

    /** A text of so many tokens whose last one is a name in a never; from 15 on. */
    private static String ofTokens(int tokens) {
        StringBuilder text = new StringBuilder("key k;green g=k;never g if k");
        int count = 12;
        if ((tokens - count) % 2 == 1) {
            text.append("&!k");
            count += 3;
        }
        for (; count < tokens; count += 2) text.append("&k");
        return text.toString();
    }

    private void roomOfTokens() {
        held.sentence("2 ROOM: a 401st TOKEN;");
        held.good(ofTokens(398) + ";");
        held.good(ofTokens(399) + ";");
        held.good(ofTokens(399) + ";   \n");
        held.fault(ofTokens(399), 1, ofTokens(399).length());
        held.fault(ofTokens(400), 1, ofTokens(400).length());
        held.fault(2, ofTokens(400) + "#;");
        held.fault(2, ofTokens(400) + " #&k;");
        held.fault(2, ofTokens(400) + "#|");
        held.fault(2, ofTokens(399) + "&#k;");
        held.fault(2, ofTokens(399) + "&#!k;");
        held.fault(2, ofTokens(399) + "&#(k);");
        held.fault(ofTokens(399) + "&", 1, ofTokens(399).length() + 1);
        for (String next : new String[] {"key", "track", "relay", "lamp", "green", "never"}) held.fault(2, ofTokens(399) + "; #" + next + " x");
        held.fault(2, ofTokens(397) + ";relay r #=k;");
        held.fault(2, ofTokens(396) + ";relay r slow #3=k;");
        held.fault(2, ofTokens(395) + ";relay r slow 3#=k;");
        held.fault(2, ofTokens(398) + ";key #x;");
        held.fault(2, ofTokens(397) + ";key x#;");
        held.good(ofTokens(396) + ";key x;");
        held.fault(2, ofTokens(397) + ";never g #if k;");
        // with which no text goes on: the least of one place
        held.fault(1, ofTokens(399) + ";#;");
        held.fault(1, ofTokens(399) + ";#%");
        held.fault(1, ofTokens(400) + " #k;");
        // a syntax fault ahead
        held.fault(1, "#%" + ofTokens(400) + ";");
        // one behind: room comes first
        held.fault(2, ofTokens(400) + "#;%");
    }

    private void roomOfThings() {
        held.sentence("a 6th INPUT, a 7th RELAY, a 6th LAMP, a 7th NEVER (at its first TOKEN);");
        held.good(FIVE);
        held.good("key a;key b;key c;key d;key e;");
        held.good("track a;track b;track c;track d;track e;");
        held.good(SIX);
        held.good(LAMPS + SIX);
        String nevers = LAMPS + SIX + "never lb if r;".repeat(6);
        held.good(nevers);
        held.good(FIVE + SIX + LAMPS + "never lb if r;".repeat(6));
        for (String more : new String[] {"key f;", "track f;", "key a;", "key", "key %", "track track"}) held.fault(2, FIVE + " #" + more);
        for (String more : new String[] {"relay w=r;", "relay q=r;", "relay w slow 10=x;", "relay", "relay ;"}) held.fault(2, SIX + " #" + more);
        for (String more : new String[] {"lamp l=r;", "green l=r;", "lamp la=r;", "green", "lamp lamp"}) held.fault(2, SIX + LAMPS + " #" + more);
        for (String more : new String[] {"never lb if r;", "never x if y;", "never", "never never"}) held.fault(2, nevers + " #" + more);
        held.fault(2, "never x if y;".repeat(6) + "#never x if y;");
        held.fault("never x if y;".repeat(6), 4, 6);
        // the others have room all the same
        held.good(FIVE + SIX + LAMPS);
        held.good(SIX + FIVE.replace("key e;", "") + LAMPS + "key e;");
    }

    private void roomOfContacts() {
        held.sentence("a 41st CONTACT (at its NAME);");
        held.good("relay r=" + row("r", 40) + ";");
        held.good("relay r=" + row("!r", 40) + ";");
        held.good("relay r=" + row("(r)", 40) + ";");
        held.good("relay r=" + row("r", 20) + ";lamp l=" + row("!r", 20) + ";");
        held.fault(2, "relay r=" + row("r", 40) + "&#r;");
        held.fault(2, "relay r=" + row("r", 40) + "|!#r;");
        held.fault(2, "relay r=" + row("r", 40) + "|(! #r);");
        held.fault(2, "relay r=" + row("r", 40) + ";lamp l=#r;");
        held.fault(2, "relay r=" + row("r", 40) + ";green l=!#r;");
        held.fault(2, "lamp l=" + row("x", 40) + ";relay r=#r;");
        held.fault("relay r=" + row("r", 40) + "&!", 1, 8 + 79 + 2);
        held.fault("relay r=" + row("r", 40) + "&;", 1, 8 + 79 + 1);
        // those of nevers are none
        held.good("green g=r;relay r=" + row("r", 39) + ";never g if " + row("r", 41) + ";");
        held.good("green g=r;never g if " + row("r", 41) + ";relay r=" + row("r", 39) + ";");
        held.fault(2, "green g=r;never g if " + row("r", 41) + ";relay r=" + row("r", 39) + "|#r;");
    }

    private void roomOfBrackets() {
        held.sentence("a 5th ( within one another (at it).");
        for (String text : new String[] {"relay r=", "lamp l=", "green g=r;never g if "}) {
            String ahead = text.startsWith("relay") ? text : "relay r=r;" + text;
            held.good(ahead + "((((r))));");
            held.good(ahead + "((((r))))&((((r)))|(r));");
            held.good(ahead + "((((r)|(r))&(r)));");
            held.good(ahead + "(((r|(r)|(r)|(r)|(r))));");
            held.fault(2, ahead + "((((#(r)))));");
            held.fault(2, ahead + "( ( ( (r& #(r)))));");
            held.fault(2, ahead + "((((r)|(r|#(r)))));");
            held.fault(2, ahead + "((((#(");
            held.fault(2, ahead + "((((#((((r");
        }
        held.fault(1, "relay r=((((r#(r);");
        // each circuit begins anew
        held.good("relay r=((((r))));lamp l=((((r))));green g=((((r))));never g if ((((r))));");
    }

    private void twice() {
        held.sentence("If there is none, likewise: 3 TWICE: a NAME told already (of INPUTS, RELAYS, LAMPS).");
        String[] sorts = {"key x;", "track x;", "relay x=q;", "relay x slow 3=q;", "lamp x=q;", "green x=q;"};
        for (String first : sorts) {
            for (String second : sorts) held.fault(3, "key q;" + first + second.replace(" x", " #x"));
            held.good("key q;" + first + "key y;");
        }
        held.fault(3, "key a;key b;key c;key #a;key b;");
        held.fault(3, "key abcdefgh;key abcdefgi;key #abcdefgh;");
        held.good("key a;key aa;key aaa;");
        // a never tells no name
        held.good("key k;green g=k;never g if k;never g if !k;");
        // syntax and room come first, wherever they stand
        held.fault("key a;key a;%", 1, 12);
        held.fault("key a;key a;key", 1, 15);
        held.fault(2, "key a;key a;key a;key a;key a;#key a;");
        held.fault(3, "key a;key #a;key a;key a;key a;");
        // the first of 3, 4 and 5 by its place
        held.fault(3, "key a;key #a;lamp l=x;relay r slow 10=a;");
        held.fault(4, "key a;lamp l=#x;key a;relay r slow 10=a;");
        held.fault(5, "key a;relay r slow #10=x;key a;");
    }

    private void nameless() {
        held.sentence("4 NAME: in a C no INPUT or RELAY of the text, told ahead or behind; behind never no green told ahead.");
        held.good("lamp l=k|r|t;key k;relay r=s;track t;relay s=s;");
        held.good("key k;lamp l=k;");
        held.good("relay r=r;");
        held.fault(4, "key k;lamp l=#x;");
        held.fault(4, "key k;lamp l=k&!#x;");
        held.fault(4, "key k;lamp l=(k|#x)|y;");
        held.fault(4, "key k;relay r=r|#x;");
        held.fault(4, "key abcdefgh;lamp l=#abcdefgi;");
        // names of lamps are neither, wherever they are told
        held.fault(4, "key k;lamp m=k;lamp l=#m;");
        held.fault(4, "key k;lamp l=#m;green m=k;");
        held.fault(4, "key k;lamp l=#l;");
        // in a never's C too
        held.good("key k;green g=k;never g if r&k;relay r=k;");
        held.fault(4, "key k;green g=k;never g if #x;");
        held.fault(4, "key k;green g=k;never g if #g;");
        held.fault(4, "key k;green g=k;never g if k;never g if k|#x;");
        // behind never
        held.fault(4, "key k;never #g if k;");
        held.fault(4, "key k;never #g if k;green g=k;");
        held.fault(4, "key k;lamp g=k;never #g if k;");
        held.fault(4, "key k;never #k if k;");
        held.fault(4, "relay r=r;never #r if r;");
        held.fault(4, "key k;green g=k;green h=k;never g if k;never h if k;never #i if k;");
        held.fault(4, "key k;green g=k;never #x if y;");
        // told twice is told: here only the second one of a is a fault
        held.fault(3, "key a;lamp l=a;relay #a=a;");
        held.fault(3, "lamp x=y;relay #x=y;key y;lamp z=x;");
        held.fault(3, "lamp z=x;lamp x=y;relay #x=y;key y;");
        held.fault(4, "lamp z=#w;lamp x=y;relay x=y;key y;");
    }

    private void slow() {
        held.sentence("5 WRONG: slow above 9 (at it).");
        held.good("relay r slow 9=r;");
        held.good("relay r slow 0009=r;");
        held.good("relay r slow 0=r;");
        held.good("relay r=r;");
        for (String number : new String[] {"10", "11", "19", "90", "010", "0010", "100", "9999", "1000"}) held.fault(5, "relay r slow #" + number + "=r;");
        held.fault(5, "relay r slow 9=r;relay s slow #10=r;relay t slow 11=r;");
        held.fault(4, "relay r slow 9=#x;relay s slow 10=r;");
        held.fault("relay r slow 10=r;%", 1, 18);
    }

    private static void begun(RelayHut x) {
        Check.read(x, "key k;key j;relay r slow 2=k;relay s=r;green g=s;lamp m=j;never g if !k&j;");
        x.log(1, 0, 1);
        x.log(2, 5, 0);
        x.annul(1);
        x.set(0, true);
        x.round();
        x.round();
        x.set(0, false);
        x.round();
        x.strap(2, true);
        x.age(1, 3);
    }

    private void textWithFault() {
        held.sentence("A text with a FAULT of it changes nothing;");
        String[] faulty = {"key k;%", "key", FIVE + "key f;", "key a;key a;", "lamp l=x;", "relay r slow 10=r;"};
        int[] numbers = {1, 1, 2, 3, 4, 5};
        for (int i = 0; i < faulty.length; i++) {
            RelayHut tried = new RelayHut();
            RelayHut plain = new RelayHut();
            begun(tried);
            begun(plain);
            held.due("read of " + faulty[i], Check.read(tried, faulty[i]), numbers[i]);
            held.goesOnAlike("read of " + faulty[i], tried, plain);
        }
        RelayHut none = new RelayHut();
        Check.read(none, "key");
        held.goesOnAlike("read without a drawing", none, new RelayHut());
        // nothing of it takes room from the next text
        String full = FIVE + SIX + LAMPS + "never lb if ((((r))));".repeat(6) + "%";
        String most = "key k;relay r=" + row("k", 39) + "&((((k))));";
        for (String text : new String[] {full, ofTokens(400) + ";", "relay r=((((%", "relay r=((((r;", "lamp l=!%", "never g if (((("}) {
            RelayHut x = new RelayHut();
            held.due("read of a text with a fault", Check.read(x, text) > 0, true);
            held.due("then a text that fills all", Check.read(x, full.replace("%", "")), 0);
            held.due("read of it again", Check.read(x, text) > 0, true);
            held.due("then 40 contacts", Check.read(x, most), 0);
            held.due("read of it again", Check.read(x, text) > 0, true);
            held.due("then 400 tokens", Check.read(x, ofTokens(399) + ";"), 0);
            held.due("all are there", x.count(0), 3);
        }
    }

    private void textWithout() {
        held.sentence("else it is a DRAWING, numbered from 0 on, 4 at most; the last one read is AT HAND; LOGS stay.");
        RelayHut x = new RelayHut();
        String[] texts = {"key a;", "key a;key b;", "key a;key b;lamp l=a;", "relay r=r;"};
        int[] inputs = {1, 2, 2, 0};
        for (int i = 0; i < 4; i++) {
            held.due("read of drawing " + i, Check.read(x, texts[i]), 0);
            held.due("drawings", x.count(0), i + 1);
            held.due("at hand", x.count(1), i);
            held.due("its inputs", x.count(2), inputs[i]);
            if (i > 0) held.due("drawing 0 is there", x.use(0) && x.use(i), true);
            held.due("not one more", x.use(i + 1), false);
            if (i == 0) held.due("a log", x.log(0, 0, 0), 0);
            held.due("logs stay", x.count(8), 1);
        }
        Check.feed(x, "key a;");
        held.due("a fifth", x.read(), -2);
        held.due("drawings", x.count(0), 4);
        held.due("no fifth to use", x.use(4), false);
        held.due("at hand", x.count(1), 3);
        for (int i = 0; i < 4; i++) {
            held.due("use " + i, x.use(i), true);
            held.due("inputs of " + i, x.count(2), inputs[i]);
        }
    }

    // ==== promises 1 to 8, and 40 ====

    private void newObject() {
        held.sentence("`RelayHut()`: No DRAWING, no LOGS.");
        RelayHut x = new RelayHut();
        held.due("drawings", x.count(0), 0);
        held.due("logs", x.count(8), 0);
        held.due("bytes", x.count(9), 0);
        for (int what = 1; what < 8; what++) held.due("count " + what, x.count(what), NONE);
        held.due("use", x.use(0), false);
        held.due("annul", x.annul(0), NONE);
        held.due("an empty text is a drawing", x.read(), 0);
        held.due("the first one", x.count(1), 0);
    }

    private static void feedBlanks(RelayHut x, int times) {
        for (int i = 0; i < times; i++) x.feed(BLANKS, BLANKS, BLANKS, BLANKS, BLANKS);
    }

    private void feed() {
        held.sentence("`int feed(int a, int b, int c, int d, int e)`: Twenty bytes, the highest of a first, come behind the tape: how many it has.");
        held.due("the first", new RelayHut().feed(0, 0, 0, 0, 0), 20);
        for (int i = 0; i < 20; i++) {
            int[] w = {BLANKS, BLANKS, BLANKS, BLANKS, BLANKS};
            w[i / 4] ^= (0x20 ^ 0xff) << 24 - 8 * (i % 4);
            RelayHut x = new RelayHut();
            held.due("behind 20 blanks", x.feed(BLANKS, BLANKS, BLANKS, BLANKS, BLANKS) + x.feed(w[0], w[1], w[2], w[3], w[4]), 60);
            held.due("a byte of 255 is no token", x.read(), 1);
            held.due("its place", x.place(), 20 + i);
        }
        RelayHut x = new RelayHut();
        for (int i = 1; i <= 100; i++) held.due("how many", x.feed(BLANKS, BLANKS, BLANKS, BLANKS, BLANKS), 20 * i);
        RelayHut y = new RelayHut();
        // "key ", "abcd", "efgh", ";lam", "p l=", then "abcd", "efgh", ";key", " zy;", "    "
        y.feed(0x6b657920, 0x61626364, 0x65666768, 0x3b6c616d, 0x70206c3d);
        y.feed(0x61626364, 0x65666768, 0x3b6b6579, 0x207a793b, BLANKS);
        held.due("bytes in their order", y.read(), 0);
        held.due("both keys", y.count(2), 2);
        held.sentence("NONE, and nothing comes, if it would have more than 2,000.");
        for (int bytes : new int[] {2000, 1999, 1981}) {
            held.unchanged("feed behind " + bytes, NONE, h -> {
                feedBlanks(h, 100);
                h.back(2000 - bytes);
            }, h -> h.feed(0x6b6b6b6b, 0, 0, 0, 0));
        }
        RelayHut z = new RelayHut();
        feedBlanks(z, 100);
        held.due("back to 1,980", z.back(20), 1980);
        held.due("feed to 2,000", z.feed(BLANKS, BLANKS, BLANKS, BLANKS, BLANKS), 2000);
        z.back(19);
        held.due("feed to 2,001", z.feed(BLANKS, BLANKS, BLANKS, BLANKS, BLANKS), NONE);
        held.due("bytes", z.count(9), 1981);
    }

    private void back() {
        held.sentence("`int back(int n)`: The last n bytes of the tape go: how many it has.");
        held.due("none of none", new RelayHut().back(0), 0);
        RelayHut x = new RelayHut();
        Check.feed(x, "key k;key");
        held.due("none", x.back(0), 9);
        held.due("one", x.back(1), 8);
        held.due("two", x.back(2), 6);
        held.due("the first ones stay", x.read(), 0);
        Check.feed(x, "key k");
        held.due("all", x.back(5), 0);
        held.due("nothing is left", x.count(9), 0);
        String[] ahead = {"relay r slow 1234", "key abcdefgh", "relay r slow", "key k;", "relay r=r"};
        String[] gone = {"5", "i", "s", "%", "&"};
        for (int i = 0; i < ahead.length; i++) {
            RelayHut z = new RelayHut();
            Check.feed(z, ahead[i] + gone[i]);
            held.due("the last byte goes", z.back(1), ahead[i].length());
            held.due("and is not read: " + ahead[i], z.read(), i == 3 ? 0 : 1);
            held.due("the text ends ahead of it: " + ahead[i], z.place(), i == 3 ? NONE : ahead[i].length());
        }
        RelayHut y = new RelayHut();
        feedBlanks(y, 100);
        held.due("all of 2,000", y.back(2000), 0);
        held.sentence("NONE, and nothing goes, if it has not so many, or n is below 0.");
        for (int n : new int[] {7, 8, 2000, Integer.MAX_VALUE, -1, -6, Integer.MIN_VALUE})
            held.unchanged("back " + n + " of 6", NONE, h -> Check.feed(h, "key k;"), h -> h.back(n));
        held.unchanged("back 1 of none", NONE, h -> { }, h -> h.back(1));
        held.unchanged("back -1 of none", NONE, h -> { }, h -> h.back(-1));
        held.unchanged("back 2,001 of 2,000", NONE, h -> feedBlanks(h, 100), h -> h.back(2001));
    }

    private void read() {
        held.sentence("`int read()`: The tape, which is empty then, is read: 0, or the number of its FAULT.");
        RelayHut x = new RelayHut();
        held.due("an empty tape", x.read(), 0);
        String[] texts = {"key k;%", FIVE + "key f;", "key a;key a;", "lamp l=x;", "relay r slow 10=r;", "key k;"};
        for (int i = 0; i < texts.length; i++) {
            held.due("read of " + texts[i], Check.read(x, texts[i]), (i + 1) % 6);
            held.due("the tape is empty", x.count(9), 0);
            held.due("back of it", x.back(1), NONE);
        }
        held.due("an empty tape again", x.read(), 0);
        held.sentence("-2, and the tape stays: 4 DRAWINGS are there.");
        for (String text : new String[] {"key k;", "key k;%", ""}) {
            held.unchanged("read of a fifth: " + text, -2, h -> {
                for (int i = 0; i < 4; i++) Check.read(h, "key a;".repeat(i % 2));
                Check.feed(h, text);
            }, RelayHut::read);
        }
        RelayHut y = new RelayHut();
        for (int i = 0; i < 3; i++) held.due("drawing " + i, Check.read(y, "key k;"), 0);
        held.due("a fault does not count", Check.read(y, "key"), 1);
        held.due("the fourth", Check.read(y, "key k;"), 0);
        Check.feed(y, "key k;");
        held.due("the fifth", y.read(), -2);
        held.due("once more", y.read(), -2);
        held.due("the tape stays", y.count(9), 6);
    }

    private void place() {
        held.sentence("`int place()`: The byte of the latest read()'s FAULT (that was not -2); NONE without.");
        RelayHut x = new RelayHut();
        held.due("without a read", x.place(), NONE);
        Check.feed(x, "key");
        held.due("ahead of the read", x.place(), NONE);
        x.read();
        held.due("at the end", x.place(), 3);
        Check.read(x, "%");
        held.due("of the latest", x.place(), 0);
        Check.feed(x, "key k;");
        held.due("of the latest still", x.place(), 0);
        x.read();
        held.due("without a fault", x.place(), NONE);
        Check.read(x, "");
        Check.read(x, "");
        Check.read(x, "key a;key a;");
        held.due("of the latest", x.place(), 10);
        Check.read(x, "");
        held.due("of a good one", x.place(), NONE);
        Check.feed(x, "key");
        held.due("a fifth", x.read(), -2);
        held.due("that was not -2", x.place(), NONE);
        RelayHut y = new RelayHut();
        feedBlanks(y, 100);
        y.back(5);
        held.due("a text of 1,995", y.read(), 0);
        for (int i = 0; i < 99; i++) y.feed(BLANKS, BLANKS, BLANKS, BLANKS, BLANKS);
        y.feed(BLANKS, BLANKS, BLANKS, BLANKS, 0x6b657920);
        held.due("a key at 1,996", y.read(), 1);
        held.due("the text's end", y.place(), 2000);
    }

    private void use() {
        held.sentence("`boolean use(int drawing)`: A DRAWING is AT HAND: true; false: no such one.");
        for (int drawing : new int[] {0, -1, 1, Integer.MAX_VALUE, Integer.MIN_VALUE}) held.due("use " + drawing + " of none", new RelayHut().use(drawing), false);
        for (int drawing : new int[] {-1, 2, 3, 4, Integer.MAX_VALUE, Integer.MIN_VALUE}) {
            held.unchanged("use " + drawing + " of two", 0, h -> {
                Check.read(h, "");
                begun(h);
            }, h -> h.use(drawing) ? 1 : 0);
        }
        RelayHut x = new RelayHut();
        for (int i = 0; i < 4; i++) {
            Check.read(x, "key a;key b;key c;".substring(0, 6 * Math.min(i, 3)));
            held.due("use " + (i + 1), x.use(i + 1), false);
            held.due("use " + i, x.use(i), true);
        }
        for (int i = 3; i >= 0; i--) {
            held.due("use " + i, x.use(i), true);
            held.due("at hand", x.count(1), i);
            held.due("inputs", x.count(2), i);
        }
    }

    private void contact() {
        held.sentence("`int contact(int k, int what)`: Of CONTACT k: what 0 whose C it is of (a RELAY, 10 and a LAMP's number),"
                + " 1 what it is of (an INPUT, 10 and a RELAY's number), 2: 1 with !, else 0.");
        RelayHut x = Check.hutOf(FIVE + "relay q=a;relay r=!e;relay s=q;relay t=v;relay u=!r;relay v=t;" + LAMPS.replace("=r", "=!v"));
        int[] of = {0, 4, 10, 15, 11, 13, 15, 15, 15, 15, 15};
        for (int k = 0; k < 11; k++) {
            held.due("whose " + k, x.contact(k, 0), k < 6 ? k : 4 + k);
            held.due("of what " + k, x.contact(k, 1), of[k]);
            held.due("with ! " + k, x.contact(k, 2), k == 1 || k == 4 || k > 5 ? 1 : 0);
        }
        RelayHut full = Check.hutOf("key k;relay r=" + row("k", 39) + ";lamp l=!r;");
        held.due("the last of 40", full.contact(39, 0) + full.contact(39, 1) + full.contact(39, 2), 21);
        held.due("the one ahead", full.contact(38, 0) + full.contact(38, 1) + full.contact(38, 2), 0);
        held.sentence("2: 1 with !, else 0. NONE: no such ones.");
        for (int what = -1; what < 4; what++) {
            for (int k : new int[] {-1, 11, 12, 39, 40, 64, Integer.MAX_VALUE, Integer.MIN_VALUE}) held.due("contact " + k + " " + what, x.contact(k, what), NONE);
            held.due("of 40: contact 40 " + what, full.contact(40, what), NONE);
            held.due("without a drawing", new RelayHut().contact(0, what), NONE);
            held.due("without contacts", Check.hutOf("key k;").contact(0, what), NONE);
        }
        for (int what : new int[] {-1, 3, 4, 10, Integer.MAX_VALUE, Integer.MIN_VALUE}) held.due("what " + what, x.contact(0, what), NONE);
    }

    private void flaw() {
        held.sentence("`int flaw(int i)`: The FLAW that is the i-th of all there are, by their numbers; NONE: not so many.");
        RelayHut x = Check.hutOf("key k;relay r=k&!k;lamp l=k;");
        int[] flaws = {0, 1, 2, 4, 5, 8, 9, 200, 201};
        for (int i = 0; i < flaws.length; i++) held.due("flaw " + i, x.flaw(i), flaws[i]);
        for (int i : new int[] {-1, 9, 10, 131, 132, 1000, Integer.MAX_VALUE, Integer.MIN_VALUE}) held.due("flaw " + i, x.flaw(i), NONE);
        held.due("without a drawing", new RelayHut().flaw(0), NONE);
        held.due("without flaws", Check.hutOf("key k;").flaw(0), NONE);
        // as many as there can be: 40 contacts of one C, 6 relays with one of these each but the first
        RelayHut most = Check.hutOf("key k;relay a=" + row("k", 35) + ";relay b=k;relay c=k;relay d=k;relay e=k;relay f=k;");
        held.due("all", most.count(7), 80 + 34 + 12);
        held.due("the last but one", most.flaw(124), 210);
        held.due("the last", most.flaw(125), 211);
        held.due("behind the last", most.flaw(126), NONE);
    }

    private void count() {
        held.sentence("`int count(int what)`: 0 DRAWINGS, 1 the one AT HAND, 2 its INPUTS, 3 RELAYS, 4 LAMPS, 5 CONTACTS, 6 NEVERS,"
                + " 7 FLAWS there are, 8 LOGS and VOIDS, 9 bytes on the tape.");
        RelayHut x = Check.hutOf("");
        int[] empty = {1, 0, 0, 0, 0, 0, 0, 0, 0, 0};
        for (int what = 0; what < 10; what++) held.due("of an empty text: count " + what, x.count(what), empty[what]);
        Check.read(x, FIVE + SIX + LAMPS + "never lb if r;".repeat(6));
        x.log(0, 0, 0);
        x.log(0, 0, 0);
        x.annul(1);
        x.feed(0, 0, 0, 0, 0);
        x.back(3);
        int[] full = {2, 1, 5, 6, 5, 11, 6, 22 + 12, 3, 17};
        for (int what = 0; what < 10; what++) held.due("of a full text: count " + what, x.count(what), full[what]);
        x.use(0);
        int[] again = {2, 0, 0, 0, 0, 0, 0, 0, 3, 17};
        for (int what = 0; what < 10; what++) held.due("at hand again: count " + what, x.count(what), again[what]);
        held.sentence("NONE for others (1 .. 7: without a DRAWING).");
        for (int what : new int[] {-1, 10, 11, 100, Integer.MAX_VALUE, Integer.MIN_VALUE}) {
            held.due("count " + what, x.count(what), NONE);
            held.due("count " + what + " of a new one", new RelayHut().count(what), NONE);
        }
        for (int what = 1; what < 8; what++) held.due("count " + what + " of a new one", new RelayHut().count(what), NONE);
        for (int what : new int[] {0, 8, 9}) held.due("count " + what + " of a new one", new RelayHut().count(what), 0);
    }
}
