/** Promise 7, sentence by sentence. */
final class Promise07Number {
    private static final String PART = "Promise 7";

    private Promise07Number() {
    }

    static void hold(Check check) {
        aNumber(check);
        missing(check);
        noneSuch(check);
    }

    private static void aNumber(Check check) {
        check.sentence(PART, "A number");
        WeatherTeller teller = Days.full();
        Days.same(check, "a put of each", teller, Days.fullNumbers());
        for (int v : new int[] {-99, -98, -1, 0, 1, 998, 999}) {
            teller.put(1, 2, 3, 3, v, 0);
            check.same("number(1, 2, 3)", teller.number(1, 2, 3), v);
        }
    }

    private static void missing(Check check) {
        check.sentence(PART, "-100 if it is MISSING");
        WeatherTeller teller = Days.teller(1);
        check.same("number at first", teller.number(0, 0, 0), -100);
        teller.put(0, 0, 0, 0, -99, 0);
        check.same("number", teller.number(0, 0, 0), -99);
        check.same("number of the hour behind", teller.number(0, 0, 1), -100);
        teller.miss(0, 0, 0, 0);
        check.same("number behind miss", teller.number(0, 0, 0), -100);
        teller.put(0, 0, 0, 0, 7, 0);
        teller.next();
        check.same("number behind next", teller.number(0, 0, 0), -100);
    }

    private static void noneSuch(Check check) {
        check.sentence(PART, "or there is none such.");
        WeatherTeller teller = Days.full();
        int[] wrongs = {Integer.MIN_VALUE, -24, -1, Integer.MAX_VALUE};
        for (int wrong : wrongs) {
            check.same("number(" + wrong + ", 0, 0)", teller.number(wrong, 0, 0), -100);
            check.same("number(1, " + wrong + ", 0)", teller.number(1, wrong, 0), -100);
            check.same("number(1, 1, " + wrong + ")", teller.number(1, 1, wrong), -100);
        }
        check.same("number(3, 0, 0)", teller.number(3, 0, 0), -100);
        check.same("number(0, 6, 0)", teller.number(0, 6, 0), -100);
        check.same("number(0, 0, 24)", teller.number(0, 0, 24), -100);
        check.same("number(2, 5, 24)", teller.number(2, 5, 24), -100);
        for (int places = 0; places <= 5; places++) {
            teller = Days.teller(places);
            teller.put(1, 0, 0, 23, 5, 0);
            check.same("number of a place behind the last", teller.number(1, places, 0), -100);
        }
    }
}
