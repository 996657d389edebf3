/** What the document says of the use of an object: 512 calls, however dear they are. */
final class UseOfAnObject {
    private static final String PART = "What it is";

    private UseOfAnObject() {
    }

    static void hold(Check check) {
        calls(check, 0);
        calls(check, 24);
        apart(check);
    }

    private static void calls(Check check, int warnings) {
        check.sentence(PART, "An object is used for at most 512 calls after it has been made");
        WeatherTeller teller = Full.day(warnings);
        int first = teller.tell(400);
        // Making the day took some 120 calls; these are 380 more.
        for (int k = 0; k < 95; k++) {
            check.isTrue("put", teller.put(0, 0, 0, 0, k % 8, 0));
            // From 1 to 5 it goes together with another PLACE or HOUR.
            check.same("count(3)", teller.count(3), k % 8 >= 1 && k % 8 <= 5 ? 431 : 432);
            check.isTrue("tell", teller.tell(400) > 0);
            check.same("sign(0)", teller.sign(0), 'p');
        }
        teller.put(0, 0, 0, 0, 0, 0);
        check.same("the text of the same day", teller.tell(400), first);
    }

    /** Two objects have nothing in common. */
    private static void apart(Check check) {
        check.sentence(PART, "An object is used for");
        WeatherTeller one = Check.withRules("place a;band 0 x 0 9 1;");
        WeatherTeller other = Check.withRules("place b;place c;band 0 y 0 9 1;band 0 w 9 10 1 warn;");
        one.put(0, 0, 3, 3, 5, 0);
        other.put(0, 1, 4, 4, 9, 0);
        one.feed(0x3b3b3b3b, 0, 0, 0, 0);
        check.same("the other tape", other.rules(1), -2);
        check.told(one, 400, "a: x 3-3.");
        check.told(other, 400, "c: w 4-4.");
        check.same("the first text", Check.text(one), "a: x 3-3.");
        one.next();
        check.same("the other table", other.number(0, 1, 4), 9);
    }
}
