/** Promise 13, sentence by sentence. */
final class Promise13Next {
    private static final String PART = "Promise 13";

    private Promise13Next() {
    }

    static void hold(Check check) {
        nowIsBefore(check);
        twiceIsEmpty(check);
        allIsMissing(check);
        textAndRulesStay(check);
        withoutRules(check);
    }

    private static void nowIsBefore(Check check) {
        check.sentence(PART, "The TABLE of now is the one of before from now on");
        WeatherTeller teller = Days.full();
        teller.next();
        Days.putAll(teller, 3);
        for (int quantity = 0; quantity < 3; quantity++) {
            check.same("changed by more than 2", teller.changed(quantity, 2), 63);
            check.same("changed by more than 3", teller.changed(quantity, 3), 0);
        }
        teller.next();
        Days.putAll(teller, 3);
        for (int quantity = 0; quantity < 3; quantity++) {
            check.same("changed since the second table", teller.changed(quantity, 0), 0);
        }
    }

    /** The TABLE of two before is gone, also where the one of before has no number. */
    private static void twiceIsEmpty(Check check) {
        check.sentence(PART, "The TABLE of now is the one of before from now on");
        WeatherTeller teller = Days.full();
        teller.next();
        teller.next();
        for (int place = 0; place < 6; place++) {
            teller.put(0, place, 0, 23, 999, 0);
        }
        check.same("changed since an empty table", teller.changed(0, 0), 0);
        teller.next();
        teller.put(0, 4, 7, 7, 0, 0);
        check.same("changed since the one before", teller.changed(0, 998), 16);
        check.same("changed since the one before", teller.changed(0, 999), 0);
    }

    private static void allIsMissing(Check check) {
        check.sentence(PART, "of now all is MISSING.");
        for (int times = 1; times <= 3; times++) {
            WeatherTeller teller = Days.full();
            for (int k = 0; k < times; k++) {
                teller.next();
            }
            Days.same(check, "next", teller, Days.emptyNumbers());
            check.same("findings", teller.count(3), 0);
            check.same("warnings", teller.count(4), 0);
            check.same("changed", teller.changed(0, 0), 0);
        }
    }

    private static void textAndRulesStay(Check check) {
        check.sentence(PART, "The TABLE of now is the one of before from now on; of now all is MISSING.");
        WeatherTeller teller = Check.withRules("place a;region r=a;band 0 x 0 9 1;");
        teller.put(0, 0, 3, 3, 0, 0);
        teller.tell(400);
        Check.feedText(teller, "a: x 3-3.");
        teller.next();
        check.same("text", Check.text(teller), "a: x 3-3.");
        check.same("told(0)", teller.told(0), 0);
        check.same("count(5)", teller.count(5), 1);
        check.same("places", teller.count(0), 1);
        check.same("regions", teller.count(1), 1);
        check.same("bands", teller.count(2), 1);
        check.same("held against the table of now", teller.held(9), -1);
        check.same("tell", teller.tell(400), 0);
    }

    private static void withoutRules(Check check) {
        check.sentence(PART, "of now all is MISSING.");
        WeatherTeller teller = new WeatherTeller();
        teller.next();
        teller.next();
        check.same("number", teller.number(0, 0, 0), -100);
        check.same("changed", teller.changed(0, 0), 0);
        check.same("findings", teller.count(3), 0);
    }
}
