/** Promises 5, 6, 7, 13 and 14: put, miss, number, next and changed. */
public final class TableTest {
    private static final String RULES = "place a;place b;band 0 x 0 9 1;";

    public static void main(String[] args) {
        Check check = new Check();
        putsNumbersInSteps(check);
        putRefusesAndChangesNothing(check);
        missesHours(check);
        numberOfNone(check);
        nextMakesTheTableOfBefore(check);
        changedByMoreThanStep(check);
        check.end();
    }

    private static void putsNumbersInSteps(Check check) {
        WeatherTeller teller = Check.withRules(RULES);
        check.isTrue("put", teller.put(2, 1, 3, 6, -99, 7));
        for (int hour = 0; hour < 24; hour++) {
            int due = hour >= 3 && hour <= 6 ? -99 + 7 * (hour - 3) : -100;
            check.same("number at " + hour, teller.number(2, 1, hour), due);
            check.same("number of another place", teller.number(2, 0, hour), -100);
            check.same("number of another quantity", teller.number(1, 1, hour), -100);
        }
        check.isTrue("put over", teller.put(2, 1, 4, 4, 999, 99));
        check.same("number", teller.number(2, 1, 4), 999);
        check.same("number", teller.number(2, 1, 5), -85);
        check.isTrue("put downwards", teller.put(0, 0, 0, 11, 990, -99));
        check.same("number", teller.number(0, 0, 11), -99);
        check.isTrue("put the whole day", teller.put(0, 0, 0, 23, 0, 0));
        check.isTrue("put with the least step", teller.put(0, 0, 23, 23, 0, -99));
    }

    private static void putRefusesAndChangesNothing(Check check) {
        WeatherTeller teller = Check.withRules(RULES);
        teller.put(0, 0, 0, 23, 5, 0);
        check.isFalse("quantity 3", teller.put(3, 0, 0, 0, 1, 0));
        check.isFalse("quantity -1", teller.put(-1, 0, 0, 0, 1, 0));
        check.isFalse("place 2", teller.put(0, 2, 0, 0, 1, 0));
        check.isFalse("place -1", teller.put(0, -1, 0, 0, 1, 0));
        check.isFalse("from -1", teller.put(0, 0, -1, 0, 1, 0));
        check.isFalse("to 24", teller.put(0, 0, 23, 24, 1, 0));
        check.isFalse("from above to", teller.put(0, 0, 5, 4, 1, 0));
        check.isFalse("from the least", teller.put(0, 0, Integer.MIN_VALUE, Integer.MAX_VALUE, 1, 0));
        check.isFalse("v 1000", teller.put(0, 0, 0, 0, 1000, 0));
        check.isFalse("v -100", teller.put(0, 0, 0, 0, -100, 0));
        check.isFalse("v comes back into its span", teller.put(0, 0, 0, 1, 1000, -1));
        check.isFalse("the last one too high", teller.put(0, 0, 0, 2, 998, 1));
        check.isFalse("the last one too low", teller.put(0, 0, 0, 2, -98, -1));
        check.isFalse("step 100", teller.put(0, 0, 0, 0, 1, 100));
        check.isFalse("step -100", teller.put(0, 0, 0, 0, 1, -100));
        check.isFalse("a step that wraps", teller.put(0, 0, 0, 2, 0, Integer.MIN_VALUE));
        check.isFalse("v the greatest", teller.put(0, 0, 0, 0, Integer.MAX_VALUE, 99));
        for (int hour = 0; hour < 24; hour++) {
            check.same("number", teller.number(0, 0, hour), 5);
        }
        check.same("findings", teller.count(3), 1);
    }

    private static void missesHours(Check check) {
        WeatherTeller teller = Check.withRules(RULES);
        teller.put(0, 0, 0, 23, 5, 0);
        check.isTrue("miss", teller.miss(0, 0, 4, 5));
        check.isTrue("miss what is missing", teller.miss(0, 1, 0, 23));
        for (int hour = 0; hour < 24; hour++) {
            check.same("number", teller.number(0, 0, hour), hour == 4 || hour == 5 ? -100 : 5);
        }
        check.same("findings", teller.count(3), 2);
        check.isFalse("quantity 3", teller.miss(3, 0, 0, 0));
        check.isFalse("quantity -1", teller.miss(-1, 0, 0, 0));
        check.isFalse("place 2", teller.miss(0, 2, 0, 0));
        check.isFalse("place -1", teller.miss(0, -1, 0, 0));
        check.isFalse("from -1", teller.miss(0, 0, -1, 0));
        check.isFalse("to 24", teller.miss(0, 0, 0, 24));
        check.isFalse("from above to", teller.miss(0, 0, 1, 0));
        check.same("number", teller.number(0, 0, 0), 5);
    }

    private static void numberOfNone(Check check) {
        WeatherTeller teller = Check.withRules(RULES);
        teller.put(0, 0, 0, 23, 5, 0);
        check.same("quantity 3", teller.number(3, 0, 0), -100);
        check.same("quantity -1", teller.number(-1, 0, 0), -100);
        check.same("place 2", teller.number(0, 2, 0), -100);
        check.same("place 6", teller.number(0, 6, 0), -100);
        check.same("place -1", teller.number(0, -1, 0), -100);
        check.same("hour 24", teller.number(0, 0, 24), -100);
        check.same("hour -1", teller.number(0, 0, -1), -100);
    }

    private static void nextMakesTheTableOfBefore(Check check) {
        WeatherTeller teller = Check.withRules(RULES);
        teller.put(0, 0, 0, 23, 5, 0);
        teller.tell(400);
        teller.next();
        check.same("now all is missing", teller.number(0, 0, 0), -100);
        check.same("findings", teller.count(3), 0);
        check.same("the text stays", Check.text(teller), "a: x 0-23.");
        check.same("changed", teller.changed(0, 0), 0);
        teller.put(0, 0, 23, 23, 6, 0);
        check.same("changed", teller.changed(0, 0), 1);
        teller.next();
        check.same("changed", teller.changed(0, 0), 0);
        teller.put(0, 0, 0, 0, 9, 0);
        check.same("the table of two before is gone", teller.changed(0, 0), 0);
        teller.put(0, 0, 23, 23, 9, 0);
        check.same("changed", teller.changed(0, 2), 1);
        teller.next();
        teller.next();
        teller.put(0, 0, 0, 23, 50, 0);
        check.same("before all is missing", teller.changed(0, 0), 0);
    }

    private static void changedByMoreThanStep(Check check) {
        WeatherTeller teller = Check.withRules(RULES);
        teller.put(1, 0, 0, 5, 10, 0);
        teller.put(1, 1, 0, 5, -99, 0);
        teller.next();
        teller.put(1, 0, 5, 6, 7, 0);
        teller.put(1, 1, 5, 5, 999, 0);
        check.same("changed(1, 0)", teller.changed(1, 0), 3);
        check.same("changed(1, 2)", teller.changed(1, 2), 3);
        check.same("changed(1, 3)", teller.changed(1, 3), 2);
        check.same("changed(1, 1097)", teller.changed(1, 1097), 2);
        check.same("changed(1, 1098)", teller.changed(1, 1098), 0);
        check.same("changed(1, greatest)", teller.changed(1, Integer.MAX_VALUE), 0);
        check.same("changed(0, 0)", teller.changed(0, 0), 0);
        check.same("changed(3, 0)", teller.changed(3, 0), -1);
        check.same("changed(-1, 0)", teller.changed(-1, 0), -1);
        check.same("changed(1, -1)", teller.changed(1, -1), -1);
    }
}
