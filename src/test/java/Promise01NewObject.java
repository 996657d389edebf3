/** Promise 1, sentence by sentence. */
final class Promise01NewObject {
    private static final String PART = "Promise 1";

    private Promise01NewObject() {
    }

    static void hold(Check check) {
        noRules(check);
        emptyTape(check);
        allMissing(check);
    }

    private static void noRules(Check check) {
        check.sentence(PART, "No RULES");
        WeatherTeller teller = new WeatherTeller();
        for (int what = 0; what <= 4; what++) {
            check.same("count(" + what + ")", teller.count(what), 0);
        }
        check.same("fault(0)", teller.fault(0), 0);
        check.same("fault(1)", teller.fault(1), -1);
        check.isFalse("put of the first place", teller.put(0, 0, 0, 0, 0, 0));
        check.isFalse("miss of the first place", teller.miss(0, 0, 0, 0));
        check.same("finding(0, 0) throws", Check.thrown(teller, 0, 0), 1);
        check.same("tell(400)", teller.tell(400), 0);
        check.held(teller, "a: x 0-0.", -1);
    }

    private static void emptyTape(Check check) {
        check.sentence(PART, "an empty TAPE");
        WeatherTeller teller = new WeatherTeller();
        check.same("rules(1)", teller.rules(1), -2);
        check.same("held(1)", teller.held(1), -10000);
        check.same("held(0)", teller.held(0), 0);
        check.same("rules(0)", teller.rules(0), 0);
        check.same("feed", teller.feed(0, 0, 0, 0, 0), 20);
    }

    private static void allMissing(Check check) {
        check.sentence(PART, "all MISSING");
        WeatherTeller teller = new WeatherTeller();
        for (int quantity = 0; quantity < 3; quantity++) {
            check.same("changed(" + quantity + ", 0)", teller.changed(quantity, 0), 0);
            for (int place = 0; place < 6; place++) {
                for (int hour = 0; hour < 24; hour++) {
                    check.same("number", teller.number(quantity, place, hour), -100);
                }
            }
        }
    }
}
