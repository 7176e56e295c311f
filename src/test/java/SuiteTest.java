import java.util.List;

/** A drawing whose flaws would need more than the 30 tests that a suite has. */
public final class SuiteTest {
    private static final String TEXT = "key a;key b;track c;key d;track e;"
            + "relay ra=!e&!d&!b;relay rb=!c&!b&!d&rc&a|rb;relay rc=b|e&rc;relay rd=!rb|rd&!c;"
            + "lamp la=!rb|!a&!rc|!rd&a&d;lamp lb=rd|!e&!c&d&!a;lamp lc=!b|c&a&rb;lamp ld=ra;"
            + "lamp le=rc&!c&d|e|rb&!b;";

    public static void main(String[] args) {
        Check check = new Check("the full suite");
        RelayHut hut = Check.hutOf(TEXT);
        Model model = new Model();
        for (int i = 0; i < TEXT.length(); i += 20) {
            model.feed(Check.four(TEXT, i), Check.four(TEXT, i + 4), Check.four(TEXT, i + 8), Check.four(TEXT, i + 12), Check.four(TEXT, i + 16));
        }
        check.due("read", model.read(), 0);
        List<List<Integer>> all = model.suiteTests(1000);
        check.due("22 more than 30 are needed", all.size() > 30, true);
        check.due("22 suite", hut.suite(), 30);
        int acts = 0;
        for (int k = 0; k < 30; k++) {
            List<Integer> test = all.get(k);
            acts += test.size();
            for (int i = 0; i < test.size(); i++) {
                check.due("23 suiteAct " + k + " " + i, hut.suiteAct(k, i), test.get(i));
            }
            check.due("23 suiteAct at the end of " + k, hut.suiteAct(k, test.size()), -1);
        }
        check.due("23 suiteAct 30 0", hut.suiteAct(30, 0), -1);
        check.due("24 suiteActs", hut.suiteActs(), acts);
        check.end();
    }
}
