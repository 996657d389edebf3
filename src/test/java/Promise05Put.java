import java.util.Arrays;

/** Promise 5, sentence by sentence. */
final class Promise05Put {
    private static final String PART = "Promise 5";
    private static final int LEAST = Integer.MIN_VALUE;
    private static final int MOST = Integer.MAX_VALUE;

    private Promise05Put() {
    }

    static void hold(Check check) {
        inSteps(check);
        overNumbers(check);
        noneSuch(check);
        noSuchPlace(check);
        outOfSpan(check);
        edgesOfTheSpan(check);
        stepOutOfSpan(check);
    }

    private static void inSteps(Check check) {
        check.sentence(PART, "HOURS from .. to of a QUANTITY and PLACE have v, v + step, and so on: true");
        puts(check, 0, 0, 0, 0, 5, 7);
        puts(check, 2, 5, 23, 23, -5, -7);
        puts(check, 1, 3, 0, 23, 0, 0);
        puts(check, 1, 4, 0, 23, -99, 47);
        puts(check, 2, 0, 0, 23, 999, -47);
        puts(check, 0, 5, 5, 6, 20, 1);
        puts(check, 1, 1, 3, 5, 600, -1);
    }

    private static void overNumbers(Check check) {
        check.sentence(PART, "HOURS from .. to of a QUANTITY and PLACE have v, v + step, and so on: true");
        WeatherTeller teller = Days.teller(1);
        check.isTrue("put", teller.put(0, 0, 5, 7, 20, 1));
        check.isTrue("put over it", teller.put(0, 0, 6, 8, 30, 1));
        int[] due = {-100, 20, 30, 31, 32, -100};
        for (int hour = 4; hour <= 9; hour++) {
            check.same("number at " + hour, teller.number(0, 0, hour), due[hour - 4]);
        }
    }

    private static void noneSuch(Check check) {
        check.sentence(PART, "false, and nothing happens: there are none such");
        for (int quantity : new int[] {-1, 3, LEAST, MOST}) {
            refuses(check, quantity, 0, 0, 0, 1, 0);
        }
        for (int place : new int[] {-1, 6, 7, LEAST, MOST}) {
            refuses(check, 0, place, 0, 0, 1, 0);
        }
        int[][] hours = {{-1, 0}, {-1, -1}, {23, 24}, {24, 24}, {1, 0}, {23, 22}, {23, 0}, {-1, 24}, {LEAST, 0},
            {0, LEAST}, {0, MOST}, {MOST, 0}, {LEAST, MOST}, {MOST, LEAST}, {LEAST, LEAST}, {MOST, MOST}};
        for (int[] fromTo : hours) {
            refuses(check, 0, 1, fromTo[0], fromTo[1], 1, 0);
            refuses(check, 0, 1, fromTo[0], fromTo[1], 1, 1);
        }
    }

    private static void noSuchPlace(Check check) {
        check.sentence(PART, "false, and nothing happens: there are none such");
        for (int places = 0; places <= 5; places++) {
            WeatherTeller teller = Days.teller(places);
            check.isFalse("put of the place behind the last", teller.put(0, places, 0, 23, 1, 0));
            check.same("findings", teller.count(3), 0);
            check.same("put of the last place", teller.put(0, places - 1, 0, 0, 1, 0) ? 1 : 0, places > 0 ? 1 : 0);
            Days.same(check, "put", Days.teller(places), Days.emptyNumbers());
        }
    }

    private static void outOfSpan(Check check) {
        check.sentence(PART, "or a number is out of its span");
        int[][] wrong = {{0, 0, 1000, 0}, {0, 0, -100, 0}, {0, 1, 1000, -1}, {0, 1, -100, 1}, {0, 1, 999, 1}, {0, 1, -99, -1},
            {0, 23, 0, 44}, {0, 23, 0, -5}, {22, 23, 950, 50}, {22, 23, -50, -50}, {0, 0, LEAST, 0}, {0, 0, MOST, 0},
            {0, 1, MOST, 99}, {0, 1, LEAST, -99}, {0, 23, MOST, 1}, {0, 23, LEAST, -1}};
        for (int[] row : wrong) {
            refuses(check, 0, 0, row[0], row[1], row[2], row[3]);
        }
    }

    private static void edgesOfTheSpan(Check check) {
        check.sentence(PART, "or a number is out of its span");
        puts(check, 0, 0, 0, 0, 999, 99);
        puts(check, 0, 0, 0, 0, -99, -99);
        puts(check, 0, 0, 22, 23, 998, 1);
        puts(check, 0, 0, 22, 23, -98, -1);
        puts(check, 0, 0, 22, 23, 999, -1);
        puts(check, 0, 0, 22, 23, -99, 1);
        puts(check, 0, 0, 0, 23, 10, 43);
        puts(check, 0, 0, 0, 23, 890, -43);
    }

    private static void stepOutOfSpan(Check check) {
        check.sentence(PART, "(step -99 .. 99)");
        puts(check, 0, 0, 3, 4, 100, 99);
        puts(check, 0, 0, 3, 4, 100, -99);
        puts(check, 0, 0, 3, 3, 100, 99);
        puts(check, 0, 0, 3, 3, 100, -99);
        refuses(check, 0, 0, 3, 4, 100, 100);
        refuses(check, 0, 0, 3, 4, 100, -100);
        // The least int times 2 and 2 to the 30th times 4 are 0 by wrap-around.
        for (int step : new int[] {100, -100, 1000, LEAST, MOST, 1 << 30, -(1 << 30)}) {
            refuses(check, 0, 0, 3, 3, 100, step);
            refuses(check, 0, 0, 3, 5, 100, step);
            refuses(check, 0, 0, 3, 7, 100, step);
        }
    }

    /** The six are put()'s own; all other numbers stay. */
    private static void puts(Check check, int... six) {
        String call = "put" + Arrays.toString(six);
        int[][] days = {Days.emptyNumbers(), Days.fullNumbers()};
        WeatherTeller[] tellers = {Days.teller(6), Days.full()};
        for (int k = 0; k < 2; k++) {
            check.isTrue(call, tellers[k].put(six[0], six[1], six[2], six[3], six[4], six[5]));
            for (int hour = six[2]; hour <= six[3]; hour++) {
                days[k][(six[0] * 6 + six[1]) * 24 + hour] = six[4] + (hour - six[2]) * six[5];
            }
            Days.same(check, call, tellers[k], days[k]);
        }
    }

    private static void refuses(Check check, int... six) {
        String call = "put" + Arrays.toString(six);
        WeatherTeller teller = Days.full();
        int findings = teller.count(3);
        check.isFalse(call, teller.put(six[0], six[1], six[2], six[3], six[4], six[5]));
        check.same("findings behind " + call, teller.count(3), findings);
        Days.same(check, call, teller, Days.fullNumbers());
    }
}
