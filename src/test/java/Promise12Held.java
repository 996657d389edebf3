/** Promise 12, sentence by sentence. What a CLAUSE is and when it is TRUE is held by Terms3. */
final class Promise12Held {
    private static final String PART = "Promise 12";

    private Promise12Held() {
    }

    static void hold(Check check) {
        firstBytes(check);
        emptyThen(check);
        howManyClauses(check);
        placeOfTheFirstWrongOne(check);
        notSoMany(check);
        nothingElseHappens(check);
    }

    private static void firstBytes(Check check) {
        check.sentence(PART, "The TAPE's first n bytes");
        for (int n = 0; n <= 20; n++) {
            WeatherTeller teller = teller();
            Check.feedText(teller, "a: x 0-1. a: x 0-1.;");
            int due = n == 0 ? 0 : n < 9 ? -1 : n <= 10 ? 1 : n < 19 ? -11 : n == 19 ? 2 : -20;
            check.same("held(" + n + ")", teller.held(n), due);
        }
    }

    private static void emptyThen(Check check) {
        check.sentence(PART, "(it is empty then) are HELD");
        WeatherTeller teller = teller();
        for (int n : new int[] {0, 3, 9, 10, 19, 20}) {
            Check.feedText(teller, "a: x 0-1. a: x 0-1.;");
            teller.held(n);
            check.same("held(1) behind held(" + n + ")", teller.held(1), -10000);
            check.same("rules(1) behind held(" + n + ")", teller.rules(1), -2);
            check.same("feed behind held(" + n + ")", teller.feed(0, 0, 0, 0, 0), 20);
            teller.held(0);
        }
    }

    private static void howManyClauses(Check check) {
        check.sentence(PART, "how many CLAUSES, all TRUE");
        WeatherTeller teller = teller();
        check.held(teller, "", 0);
        check.held(teller, " ", 0);
        check.held(teller, " ".repeat(1000), 0);
        check.held(teller, "a: x 0-1.", 1);
        check.held(teller, "a: x 0-1. a: x 0-1.", 2);
        check.held(teller, "a:x0-1.".repeat(142), 142);
        check.held(teller, "a:x0-1.".repeat(142) + " ".repeat(6), 142);
        check.held(new WeatherTeller(), "", 0);
        check.held(new WeatherTeller(), "   ", 0);
    }

    private static void placeOfTheFirstWrongOne(Check check) {
        check.sentence(PART, "less 1 and the place of the first sign of the first CLAUSE that is none or isn't TRUE");
        WeatherTeller teller = teller();
        String[] wrongs = {"a: x 4-5.", "b: x 0-1.", "a: y 0-1.", "q: x 0-1.", "a: q 0-1.", "a x", ".", "\0", "\n", "\377"};
        for (String wrong : wrongs) {
            check.held(teller, wrong, -1);
            check.held(teller, " " + wrong, -2);
            check.held(teller, "a: x 0-1." + wrong, -10);
            check.held(teller, "a: x 0-1.   " + wrong + " a: x 0-1.", -13);
            check.held(teller, " a: x 0-1. a: x 0-1. " + wrong + wrong, -22);
        }
        check.held(teller, " ".repeat(999) + ".", -1000);
        check.held(teller, " ".repeat(991) + "a: x 0-9.", -992);
        check.held(teller, "a:x0-1.".repeat(142) + ".", -995);
        check.held(teller, "a: x 0-1. b: x 0-1. ; a: x 0-1.", -11);
    }

    private static void notSoMany(Check check) {
        check.sentence(PART, "-10000, and the TAPE stays: there are not so many, n is below 0.");
        WeatherTeller teller = teller();
        for (int n : new int[] {1, 20, 1000, 1001, Integer.MAX_VALUE, -1, Integer.MIN_VALUE}) {
            check.same("held(" + n + ") of an empty tape", teller.held(n), -10000);
        }
        Check.feedText(teller, "a: x 0-1. a: x 0-1. ");
        for (int n : new int[] {21, 40, 1001, Integer.MAX_VALUE, -1, -20, Integer.MIN_VALUE}) {
            check.same("held(" + n + ") of 20", teller.held(n), -10000);
        }
        check.same("held(20)", teller.held(20), 2);
        Check.feedText(teller, "place q;            ");
        teller.held(21);
        check.same("feed behind -10000", teller.feed(0x20202020, 0x20202020, 0x20202020, 0x20202020, 0x20202020), 40);
        check.same("rules(40)", teller.rules(40), 0);
        check.same("places", teller.count(0), 1);
    }

    private static void nothingElseHappens(Check check) {
        check.sentence(PART, "The TAPE's first n bytes (it is empty then) are HELD");
        WeatherTeller teller = teller();
        teller.tell(400);
        for (String text : new String[] {"a: x 0-1.", "a: x 5-5.", "place q;"}) {
            Check.held(teller, text);
            check.same("text", Check.text(teller), "a: x 0-3.");
            check.same("number", teller.number(0, 0, 0), 5);
            check.same("places", teller.count(0), 2);
            check.same("findings", teller.count(3), 1);
        }
    }

    /** "a" is IN "x" from 0 to 3. */
    private static WeatherTeller teller() {
        WeatherTeller teller = Check.withRules("place a;place b;band 0 x 0 9 1;band 0 y 9 10 1;");
        teller.put(0, 0, 0, 3, 5, 0);
        return teller;
    }
}
