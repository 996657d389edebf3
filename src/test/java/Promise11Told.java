/** Promise 11, sentence by sentence. */
final class Promise11Told {
    private static final String PART = "Promise 11";

    private Promise11Told() {
    }

    static void hold(Check check) {
        findings(check);
        asNumberedWhenTold(check);
        asManyAsCanBe(check);
        noneSuch(check);
    }

    private static void findings(Check check) {
        check.sentence(PART, "The k-th FINDING of the text at hand");
        WeatherTeller teller = threeFindings();
        check.told(teller, 400, "a: w 5-5. a: x 1-3. a: x 8-8.");
        int[] due = {2, 0, 1};
        for (int k = 0; k < 3; k++) {
            check.same("told(" + k + ")", teller.told(k), due[k]);
        }
    }

    private static void asNumberedWhenTold(Check check) {
        check.sentence(PART, "(as numbered when it was told)");
        WeatherTeller teller = threeFindings();
        teller.tell(400);
        teller.put(0, 0, 0, 0, 9, 0);
        check.same("the warning's number now", teller.finding(2, 1), 0);
        check.same("told(0) behind put", teller.told(0), 2);
        teller.miss(0, 0, 0, 23);
        check.same("findings now", teller.count(3), 0);
        check.same("told(1) behind miss", teller.told(1), 0);
        teller.next();
        check.same("told(2) behind next", teller.told(2), 1);
        teller.tell(401);
        check.same("told(2) behind a refused tell", teller.told(2), 1);
    }

    /** 24 HOURS of 6 PLACES and 3 QUANTITIES, each a WARNING of its own. */
    private static void asManyAsCanBe(Check check) {
        check.sentence(PART, "The k-th FINDING of the text at hand");
        WeatherTeller teller = Full.day(24);
        teller.tell(0);
        check.same("count(5)", teller.count(5), 432);
        for (int k = 1; k < 432; k += 2) {
            check.same("told(" + k + ")", teller.told(k), k);
        }
        check.same("told(432)", teller.told(432), -1);
    }

    private static void noneSuch(Check check) {
        check.sentence(PART, "NONE if there is none such.");
        int[] never = {-1, 432, Integer.MIN_VALUE, Integer.MAX_VALUE};
        WeatherTeller teller = new WeatherTeller();
        check.same("told(0) without a text", teller.told(0), -1);
        none(check, teller, never);
        teller = threeFindings();
        check.same("told(0) ahead of tell", teller.told(0), -1);
        teller.tell(400);
        check.same("told(2)", teller.told(2), 1);
        check.same("told(3)", teller.told(3), -1);
        none(check, teller, never);
        teller.tell(0);
        check.same("told(0)", teller.told(0), 2);
        check.same("told(1) of a shorter text", teller.told(1), -1);
        teller.next();
        teller.tell(400);
        check.same("told(0) of an empty text", teller.told(0), -1);
        none(check, teller, never);
        teller = threeFindings();
        teller.tell(400);
        teller.rules(0);
        check.same("told(0) behind rules", teller.told(0), -1);
        none(check, teller, never);
    }

    private static void none(Check check, WeatherTeller teller, int[] never) {
        for (int k : never) {
            check.same("told(" + k + ")", teller.told(k), -1);
        }
    }

    /** "x 1-3", "x 8-8" and the WARNING "w 5-5". */
    private static WeatherTeller threeFindings() {
        WeatherTeller teller = Check.withRules("place a;band 0 x 0 9 1;band 0 w 9 10 1 warn;");
        teller.put(0, 0, 1, 3, 0, 0);
        teller.put(0, 0, 8, 8, 0, 0);
        teller.put(0, 0, 5, 5, 9, 0);
        return teller;
    }
}
