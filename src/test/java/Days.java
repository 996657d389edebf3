import java.util.Arrays;

/** Whole tables, for tests that look at all numbers behind a call: some 430 of an object's 512 calls. */
final class Days {
    static final int CELLS = 3 * 6 * 24;
    private static final int ROWS = 3 * 6;

    private Days() {
    }

    /** With that many PLACES, and a BAND of each QUANTITY; all is MISSING. */
    static WeatherTeller teller(int places) {
        StringBuilder text = new StringBuilder("band 0 x 0 9 1;band 1 y 160 300 2;band 2 z -99 999 3;");
        for (int place = 0; place < places; place++) {
            text.append("place ").append((char) ('a' + place)).append(";");
        }
        return Check.withRules(text.toString());
    }

    /** Six PLACES, and another number in each cell: those of fullNumbers(). */
    static WeatherTeller full() {
        WeatherTeller teller = teller(6);
        putAll(teller, 0);
        return teller;
    }

    /** In each cell its own number and that much more. */
    static void putAll(WeatherTeller teller, int more) {
        for (int row = 0; row < ROWS; row++) {
            teller.put(row / 6, row % 6, 0, 23, row * 24 + more, 1);
        }
    }

    static int[] fullNumbers() {
        int[] numbers = new int[CELLS];
        for (int cell = 0; cell < CELLS; cell++) {
            numbers[cell] = cell;
        }
        return numbers;
    }

    static int[] emptyNumbers() {
        int[] numbers = new int[CELLS];
        Arrays.fill(numbers, -100);
        return numbers;
    }

    static void same(Check check, String call, WeatherTeller teller, int[] due) {
        for (int cell = 0; cell < CELLS; cell++) {
            int quantity = cell / 144;
            int place = cell / 24 % 6;
            int hour = cell % 24;
            check.same("number(" + quantity + ", " + place + ", " + hour + ") behind " + call,
                teller.number(quantity, place, hour), due[cell]);
        }
    }
}
