/** Promise 14, sentence by sentence. */
final class Promise14Changed {
    private static final String PART = "Promise 14";
    private static final int LEAST = Integer.MIN_VALUE;
    private static final int MOST = Integer.MAX_VALUE;

    private Promise14Changed() {
    }

    static void hold(Check check) {
        places(check);
        someHour(check);
        bothHaveANumber(check);
        moreThanStep(check);
        noSuchQuantity(check);
        stepBelowNought(check);
    }

    private static void places(Check check) {
        check.sentence(PART, "PLACES (bits)");
        for (int places = 0; places < 64; places++) {
            WeatherTeller teller = Days.full();
            teller.next();
            for (int place = 0; place < 6; place++) {
                int same = 144 + place * 24 + 5;
                teller.put(1, place, 5, 5, (places >> place & 1) == 1 ? same + 1 : same, 0);
            }
            check.same("changed(1, 0)", teller.changed(1, 0), places);
            check.same("changed(0, 0)", teller.changed(0, 0), 0);
            check.same("changed(2, 0)", teller.changed(2, 0), 0);
        }
    }

    private static void someHour(Check check) {
        check.sentence(PART, "of which at some HOUR");
        for (int hour = 0; hour < 24; hour++) {
            WeatherTeller teller = Days.full();
            teller.next();
            teller.put(2, 3, 0, 23, 2 * 144 + 3 * 24, 1);
            check.same("changed in no hour", teller.changed(2, 0), 0);
            teller.put(2, 3, hour, hour, 999, 0);
            check.same("changed at " + hour, teller.changed(2, 0), 8);
        }
    }

    private static void bothHaveANumber(Check check) {
        check.sentence(PART, "both TABLES have a number of a QUANTITY");
        WeatherTeller teller = Days.teller(3);
        teller.put(0, 0, 0, 11, 999, 0);
        teller.put(0, 1, 0, 11, -99, 0);
        check.same("before has none", teller.changed(0, 0), 0);
        teller.next();
        check.same("now has none", teller.changed(0, 0), 0);
        teller.put(0, 0, 12, 23, -99, 0);
        teller.put(0, 1, 12, 23, 999, 0);
        teller.put(0, 2, 0, 23, 0, 0);
        check.same("at each hour one has none", teller.changed(0, 0), 0);
        teller.put(0, 1, 11, 11, -98, 0);
        check.same("both have one at 11", teller.changed(0, 0), 2);
        teller.miss(0, 1, 11, 11);
        check.same("missing again", teller.changed(0, 0), 0);
    }

    private static void moreThanStep(Check check) {
        check.sentence(PART, "and these differ by more than step");
        WeatherTeller teller = Days.teller(2);
        teller.put(0, 0, 3, 3, -99, 0);
        teller.put(0, 1, 3, 3, 999, 0);
        teller.next();
        teller.put(0, 0, 3, 3, 999, 0);
        teller.put(0, 1, 3, 3, 990, 0);
        int[][] dues = {{0, 3}, {8, 3}, {9, 1}, {10, 1}, {1097, 1}, {1098, 0}, {1099, 0}, {MOST - 1, 0}, {MOST, 0}};
        for (int[] due : dues) {
            check.same("changed(0, " + due[0] + ")", teller.changed(0, due[0]), due[1]);
        }
        teller.put(0, 0, 3, 3, -99, 0);
        teller.put(0, 1, 3, 3, 998, 0);
        check.same("changed by one", teller.changed(0, 0), 2);
        check.same("not by more than one", teller.changed(0, 1), 0);
    }

    private static void noSuchQuantity(Check check) {
        check.sentence(PART, "NONE: no such QUANTITY");
        WeatherTeller teller = Days.full();
        teller.next();
        for (int quantity : new int[] {-1, 3, LEAST, MOST}) {
            check.same("changed(" + quantity + ", 0)", teller.changed(quantity, 0), -1);
            check.same("changed(" + quantity + ", 0) of a new object", new WeatherTeller().changed(quantity, 0), -1);
        }
    }

    private static void stepBelowNought(Check check) {
        check.sentence(PART, "or step below 0.");
        WeatherTeller teller = Days.full();
        for (int step : new int[] {-1, -99, LEAST}) {
            for (int quantity = 0; quantity < 3; quantity++) {
                check.same("changed(" + quantity + ", " + step + ")", teller.changed(quantity, step), -1);
                check.same("the same of a new object", new WeatherTeller().changed(quantity, step), -1);
            }
        }
        check.same("changed(0, 0)", teller.changed(0, 0), 0);
    }
}
