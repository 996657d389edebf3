/** Promise 9, sentence by sentence. Which text is TOLD in a ROOM is held by Terms3. */
final class Promise09Tell {
    private static final String PART = "Promise 9";
    private static final String RULES = "place a;band 0 x 0 9 1;band 0 w 9 10 1 warn;";

    private Promise09Tell() {
    }

    static void hold(Check check) {
        howManySigns(check);
        noSuchRoom(check);
        atHand(check);
    }

    private static void howManySigns(Check check) {
        check.sentence(PART, "The text TOLD in a ROOM: how many signs");
        WeatherTeller teller = new WeatherTeller();
        check.same("tell(0) without rules", teller.tell(0), 0);
        check.same("tell(400) without rules", teller.tell(400), 0);
        teller = Check.withRules(RULES);
        check.same("tell(0) without findings", teller.tell(0), 0);
        check.same("tell(400) without findings", teller.tell(400), 0);
        teller.put(0, 0, 3, 3, 0, 0);
        check.same("tell(0)", teller.tell(0), 0);
        check.same("tell(400)", teller.tell(400), 9);
        for (int hour = 0; hour < 24; hour += 2) {
            teller.put(0, 0, hour, hour, 9, 0);
        }
        // Five WARNINGS of 9 signs and seven of 11, with blanks between; then "a: x 3-3." goes in.
        check.same("tell(0)", teller.tell(0), 5 * 9 + 7 * 11 + 11);
        check.same("tell(400)", teller.tell(400), 5 * 9 + 7 * 11 + 11 + 10);
    }

    private static void noSuchRoom(Check check) {
        check.sentence(PART, "NONE: no such ROOM.");
        WeatherTeller empty = new WeatherTeller();
        WeatherTeller teller = Check.withRules(RULES);
        teller.put(0, 0, 3, 3, 9, 0);
        for (int room : new int[] {-1, 401, Integer.MIN_VALUE, Integer.MAX_VALUE}) {
            check.same("tell(" + room + ") without rules", empty.tell(room), -1);
            check.same("tell(" + room + ")", teller.tell(room), -1);
            check.same("no text is at hand", teller.sign(0), -1);
            check.same("no text is at hand", teller.count(5), 0);
        }
        teller.tell(0);
        teller.put(0, 0, 5, 5, 9, 0);
        for (int room : new int[] {-1, 401, Integer.MIN_VALUE, Integer.MAX_VALUE}) {
            check.same("tell(" + room + ")", teller.tell(room), -1);
            check.same("the text at hand stays", Check.text(teller), "a: w 3-3.");
            check.same("told(0) stays", teller.told(0), 0);
            check.same("count(5) stays", teller.count(5), 1);
            check.same("count(6) stays", teller.count(6), 1);
        }
    }

    private static void atHand(Check check) {
        check.sentence(PART, "It is the one at hand.");
        WeatherTeller teller = Check.withRules(RULES);
        teller.put(0, 0, 3, 3, 9, 0);
        teller.put(0, 0, 5, 7, 1, 0);
        check.told(teller, 400, "a: w 3-3. a: x 5-7.");
        check.told(teller, 0, "a: w 3-3.");
        check.same("count(5)", teller.count(5), 1);
        check.told(teller, 400, "a: w 3-3. a: x 5-7.");
        teller.miss(0, 0, 0, 23);
        check.same("the text stays behind miss", Check.text(teller), "a: w 3-3. a: x 5-7.");
        check.told(teller, 400, "");
        check.same("told(0) of an empty text", teller.told(0), -1);
        check.same("count(5) of an empty text", teller.count(5), 0);
        check.same("count(6) of an empty text", teller.count(6), 0);
    }
}
