import java.util.Arrays;

/** Promise 6, sentence by sentence. */
final class Promise06Miss {
    private static final String PART = "Promise 6";
    private static final int LEAST = Integer.MIN_VALUE;
    private static final int MOST = Integer.MAX_VALUE;

    private Promise06Miss() {
    }

    static void hold(Check check) {
        areMissing(check);
        whatIsMissing(check);
        noneSuch(check);
        noSuchPlace(check);
    }

    private static void areMissing(Check check) {
        check.sentence(PART, "They are MISSING: true");
        int[][] calls = {{0, 0, 0, 0}, {2, 5, 23, 23}, {1, 3, 0, 23}, {1, 2, 22, 23}, {0, 5, 7, 11}};
        for (int[] four : calls) {
            String call = "miss" + Arrays.toString(four);
            WeatherTeller teller = Days.full();
            int[] day = Days.fullNumbers();
            int row = (four[0] * 6 + four[1]) * 24;
            Arrays.fill(day, row + four[2], row + four[3] + 1, -100);
            check.isTrue(call, teller.miss(four[0], four[1], four[2], four[3]));
            Days.same(check, call, teller, day);
        }
        WeatherTeller teller = Days.teller(1);
        teller.put(0, 0, 4, 6, 5, 0);
        check.same("findings", teller.count(3), 1);
        teller.miss(0, 0, 5, 5);
        check.same("findings behind miss", teller.count(3), 2);
    }

    private static void whatIsMissing(Check check) {
        check.sentence(PART, "They are MISSING: true");
        WeatherTeller teller = Days.teller(6);
        check.isTrue("miss what is MISSING", teller.miss(0, 0, 0, 23));
        check.isTrue("miss it again", teller.miss(0, 0, 0, 23));
        Days.same(check, "miss", teller, Days.emptyNumbers());
    }

    private static void noneSuch(Check check) {
        check.sentence(PART, "false: none such.");
        int[][] calls = {{-1, 0, 0, 0}, {3, 0, 0, 0}, {LEAST, 0, 0, 0}, {MOST, 0, 0, 0}, {0, -1, 0, 0}, {0, 6, 0, 0},
            {0, LEAST, 0, 0}, {0, MOST, 0, 0}, {0, 1, -1, 0}, {0, 1, -1, -1}, {0, 1, 23, 24}, {0, 1, 24, 24}, {0, 1, 1, 0},
            {0, 1, 23, 22}, {0, 1, 0, MOST}, {0, 1, LEAST, 0}, {0, 1, LEAST, MOST}, {0, 1, MOST, LEAST}, {0, 1, -1, 24}};
        WeatherTeller teller = Days.full();
        for (int[] four : calls) {
            check.isFalse("miss" + Arrays.toString(four), teller.miss(four[0], four[1], four[2], four[3]));
        }
        Days.same(check, "refused calls", teller, Days.fullNumbers());
    }

    private static void noSuchPlace(Check check) {
        check.sentence(PART, "false: none such.");
        check.isFalse("miss without rules", new WeatherTeller().miss(0, 0, 0, 0));
        for (int places = 0; places <= 5; places++) {
            WeatherTeller teller = Days.teller(places);
            check.isFalse("miss of the place behind the last", teller.miss(0, places, 0, 0));
            check.same("miss of the last place", teller.miss(0, places - 1, 0, 0) ? 1 : 0, places > 0 ? 1 : 0);
        }
    }
}
