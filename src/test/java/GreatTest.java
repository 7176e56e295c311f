/** Great drawings, each flaw's answers compared with the model's: long searches, many pairs. */
public final class GreatTest {
    private static final String[] TEXTS = {
        "key a;key b;key c;key d;key e;relay p=a&b|p&!c;relay q=b&c|q&!d;relay r=c&d|r&!e;relay s=d&e|s&!a;"
                + "relay t=e&a|t&!b;relay u=a&c|u&!d&p;green l=p&!q|r&!s&t;lamp m=u&!t|q;green n=s&q&r;"
                + "never l if a&b&c&d&e&!p;never n if !a&u&!u;",
        "key a;key b;key c;key d;key e;relay p=a&!b|p&(!a|!b);relay q=p&b&!c|q&(!b|c);relay r=q&c&!d|r&(!c|p);"
                + "relay s=r&d&!e|s&(d|q);relay t=s&e&!a|t&(!e|a);relay u=t&a|u&b;lamp l=u&!u;",
        "key a;track b;key c;key d;track e;relay p slow 2=a&b|p&(a|b);relay q=c&d|q&(c|d);relay r slow 1=e&p|r&(e|p);"
                + "relay s=q&a|s&(q|a);relay t slow 1=r&b|t&(r|b);relay u=s&c|u&(s|c);lamp l=t&u;green g=t;"
                + "never g if !t|u&s&!a&c;"};

    public static void main(String[] args) {
        Check check = new Check("great drawings");
        for (String text : TEXTS) {
            RelayHut hut = Check.hutOf(text);
            Model model = new Model();
            for (int i = 0; i < text.length(); i += 20) {
                model.feed(Check.four(text, i), Check.four(text, i + 4), Check.four(text, i + 8), Check.four(text, i + 12),
                        Check.four(text, i + 16));
            }
            check.due("read", hut.count(0), 1 + model.read());
            check.due("reached", hut.reached(-1, -1), model.reached(-1, -1));
            check.due("races", hut.races(-1, -1), model.races(-1, -1));
            check.due("singles", hut.singles(), model.singles());
            check.due("next", hut.next(0), model.next(0));
            for (int i = 0; i < hut.count(7); i++) {
                int f = hut.flaw(i);
                check.due("least " + f, hut.least(f), model.least(f));
                check.due("leastAct " + f, hut.leastAct(f, i % 8), model.leastAct(f, i % 8));
                int g = hut.flaw((i * 7 + 3) % hut.count(7));
                check.due("reached " + f + " " + g, hut.reached(f, g), model.reached(f, g));
                check.due("bad " + f + " " + g, hut.bad(f, g), model.bad(f, g));
            }
            int f = hut.flaw(hut.count(7) / 2);
            check.due("pairs " + f, hut.pairs(f), model.pairs(f));
        }
        check.end();
    }
}
