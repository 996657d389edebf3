/** Promise 4, sentence by sentence. Which FAULT a text has is held by Terms1. */
final class Promise04Fault {
    private static final String PART = "Promise 4";

    private Promise04Fault() {
    }

    static void hold(Check check) {
        latestRules(check);
        itsFault(check);
        itsPlace(check);
        anotherWhat(check);
    }

    private static void latestRules(Check check) {
        check.sentence(PART, "Of the latest rules() that was not -2");
        WeatherTeller teller = new WeatherTeller();
        check.same("fault(0) ahead of all rules", teller.fault(0), 0);
        check.same("fault(1) ahead of all rules", teller.fault(1), -1);
        Check.rules(teller, "place a;place a;");
        for (int n : new int[] {1, -1, Integer.MAX_VALUE, Integer.MIN_VALUE}) {
            check.same("rules(" + n + ")", teller.rules(n), -2);
            check.same("fault(0) behind -2", teller.fault(0), 3);
            check.same("fault(1) behind -2", teller.fault(1), 14);
        }
        Check.rules(teller, "  ;");
        check.same("fault(0) of the latest", teller.fault(0), 1);
        check.same("fault(1) of the latest", teller.fault(1), 2);
        Check.held(teller, "no clause");
        check.same("fault(0) behind held", teller.fault(0), 1);
        Check.rules(teller, "place a;");
        check.same("fault(0) without", teller.fault(0), 0);
        check.same("fault(1) without", teller.fault(1), -1);
        teller.rules(1);
        check.same("fault(0) behind -2", teller.fault(0), 0);
        check.same("fault(1) behind -2", teller.fault(1), -1);
        Check.rules(teller, "x");
        teller.rules(0);
        check.same("fault(0) of none", teller.fault(0), 0);
        check.same("fault(1) of none", teller.fault(1), -1);
    }

    private static void itsFault(Check check) {
        check.sentence(PART, "what 0: its FAULT (0)");
        String[] texts = {"", "x", "band 3", "place a;place a;", "region r=a;", "band 0 x 2 1 1;"};
        for (int kind = 0; kind < texts.length; kind++) {
            WeatherTeller teller = new WeatherTeller();
            Check.rules(teller, texts[kind]);
            check.same("fault(0) of '" + texts[kind] + "'", teller.fault(0), kind);
        }
    }

    private static void itsPlace(Check check) {
        check.sentence(PART, "1: its place (NONE without)");
        check.fault(";", 1, 0);
        check.fault(" ".repeat(999) + ";", 1, 999);
        check.fault(" ".repeat(995) + "place", 1, 1000);
        check.fault("place" + " ".repeat(995), 1, 1000);
        check.rules("", 0);
        check.rules(" ".repeat(1000), 0);
    }

    private static void anotherWhat(Check check) {
        check.sentence(PART, "NONE for another what.");
        WeatherTeller teller = new WeatherTeller();
        for (String text : new String[] {"", "place a;place a;"}) {
            Check.rules(teller, text);
            for (int what : new int[] {-1, 2, 3, Integer.MIN_VALUE, Integer.MAX_VALUE}) {
                check.same("fault(" + what + ")", teller.fault(what), -1);
            }
        }
    }
}
