/** Promise 3, sentence by sentence. What the rules' TEXT may be is held by Terms1. */
final class Promise03Rules {
    private static final String PART = "Promise 3";
    private static final String RULES = "place a;place b;region r=a,b;band 0 x 0 9 2;";

    private Promise03Rules() {
    }

    static void hold(Check check) {
        firstBytes(check);
        allThousandBytes(check);
        emptyThen(check);
        howManyBands(check);
        theLatestAlone(check);
        theLatestAloneBehindFaults(check);
        groupsOfTheLatest(check);
        allIsMissing(check);
        noText(check);
        noneWithFault(check);
        notSoMany(check);
    }

    private static void firstBytes(Check check) {
        check.sentence(PART, "The TAPE's first n bytes");
        // A word that is cut is none for this place; behind a whole one more must come.
        int[] due = {-1, 0, 0, 0, 0, 5, 6, 7, -1, 8, 8, 8, 8, 13, 14, 15, -1, 16, 16, 16, 16};
        for (int n = 0; n <= 20; n++) {
            WeatherTeller teller = new WeatherTeller();
            check.same("rules(" + n + ")", rulesOf(teller, "place a;place b;;;;;", n), due[n] == -1 ? 0 : -1);
            check.same("fault(1) of the first " + n, teller.fault(1), due[n]);
        }
    }

    private static void allThousandBytes(Check check) {
        check.sentence(PART, "The TAPE's first n bytes");
        WeatherTeller teller = new WeatherTeller();
        String text = RULES + " ".repeat(1000 - RULES.length() - 8) + "place c;";
        check.same("rules(1000)", Check.rules(teller, text), 1);
        check.same("places", teller.count(0), 3);
        check.same("rules(999)", rulesOf(teller, text, 999), -1);
        check.same("fault(1)", teller.fault(1), 999);
    }

    private static void emptyThen(Check check) {
        check.sentence(PART, "(it is empty then)");
        WeatherTeller teller = new WeatherTeller();
        for (int n : new int[] {0, 8, 16, 20, 3, 17}) {
            Check.feedText(teller, "place a;place b;   ;");
            teller.rules(n);
            check.same("rules(1) behind rules(" + n + ")", teller.rules(1), -2);
            check.same("held(1) behind rules(" + n + ")", teller.held(1), -10000);
            check.same("feed behind rules(" + n + ")", teller.feed(0, 0, 0, 0, 0), 20);
            teller.rules(0);
        }
    }

    private static void howManyBands(Check check) {
        check.sentence(PART, "are the RULES: how many BANDS");
        check.rules("", 0);
        check.rules("place a;", 0);
        StringBuilder text = new StringBuilder("place a;");
        for (int band = 0; band < 24; band++) {
            text.append("band 0 w").append((char) ('a' + band)).append(" ").append(band).append(" ");
            text.append(band + 1).append(" 1;");
            check.rules(text.toString(), band + 1);
        }
        WeatherTeller teller = Check.withRules(text.toString());
        check.same("bands", teller.count(2), 24);
        check.same("rules of fewer", Check.rules(teller, RULES), 1);
        check.same("bands", teller.count(2), 1);
        check.same("rules(0)", teller.rules(0), 0);
        check.same("places", teller.count(0), 0);
        check.same("regions", teller.count(1), 0);
        check.same("bands", teller.count(2), 0);
        check.isFalse("put", teller.put(0, 0, 0, 0, 0, 0));
    }

    /** Nothing of earlier RULES is there in the later ones, whether these have more or less. */
    private static void theLatestAlone(Check check) {
        check.sentence(PART, "are the RULES");
        WeatherTeller teller = new WeatherTeller();
        String[] texts = {RULES, "place a;", RULES, "", RULES, RULES, "band 0 x 0 9 1;", "place r;region a=r;", RULES};
        int[][] dues = {{2, 1, 1}, {1, 0, 0}, {2, 1, 1}, {0, 0, 0}, {2, 1, 1}, {2, 1, 1}, {0, 0, 1}, {1, 1, 0}, {2, 1, 1}};
        for (int k = 0; k < texts.length; k++) {
            check.same("rules " + k, Check.rules(teller, texts[k]), dues[k][2]);
            for (int what = 0; what <= 2; what++) {
                check.same("count(" + what + ") of rules " + k, teller.count(what), dues[k][what]);
            }
        }
    }

    private static void theLatestAloneBehindFaults(Check check) {
        check.sentence(PART, "are the RULES");
        WeatherTeller teller = new WeatherTeller();
        for (int k = 0; k < 3; k++) {
            check.same("rules with a fault behind all", Check.rules(teller, RULES + "!"), -1);
            check.same("its place", teller.fault(1), RULES.length());
            check.same("rules", Check.rules(teller, RULES), 1);
            check.same("places", teller.count(0), 2);
            check.same("regions", teller.count(1), 1);
        }
    }

    private static void groupsOfTheLatest(Check check) {
        check.sentence(PART, "are the RULES");
        WeatherTeller teller = new WeatherTeller();
        String[] texts = {RULES, "place a;place b;band 0 x 0 9 2;", RULES,
            "place a;place b;place c;region s=a,c;region r=a,b;band 0 x 0 9 2;"};
        int[] names = {1 << 2, 3, 1 << 2, 1 << 4};
        String[] clauses = {"r: x 4-4.", "a, b: x 4-4.", "r: x 4-4.", "r: x 4-4."};
        for (int k = 0; k < texts.length; k++) {
            Check.rules(teller, texts[k]);
            teller.put(0, 0, 4, 4, 0, 0);
            teller.put(0, 1, 4, 4, 0, 0);
            check.same("names by rules " + k, teller.finding(0, 7), names[k]);
            check.same("taken out by rules " + k, teller.finding(0, 8), 0);
            check.told(teller, 400, clauses[k]);
        }
    }

    private static void allIsMissing(Check check) {
        check.sentence(PART, "all is MISSING then, in the TABLE of before too");
        WeatherTeller teller = changedTeller();
        check.same("changed ahead of it", teller.changed(0, 0), 3);
        check.same("findings ahead of it", teller.count(3), 1);
        check.same("rules", Check.rules(teller, RULES), 1);
        for (int quantity = 0; quantity < 3; quantity++) {
            for (int place = 0; place < 2; place++) {
                for (int hour = 0; hour < 24; hour++) {
                    check.same("number", teller.number(quantity, place, hour), -100);
                }
            }
        }
        check.same("findings", teller.count(3), 0);
        teller.put(0, 0, 0, 23, 500, 0);
        teller.put(0, 1, 0, 23, 500, 0);
        check.same("changed since a table of before", teller.changed(0, 0), 0);
        teller.rules(0);
        Check.rules(teller, RULES);
        check.same("number by the same rules later", teller.number(0, 0, 0), -100);
    }

    private static void noText(Check check) {
        check.sentence(PART, "and there is no text at hand.");
        for (String text : new String[] {RULES, ""}) {
            WeatherTeller teller = changedTeller();
            check.isTrue("tell", teller.tell(400) > 0);
            Check.rules(teller, text);
            check.same("sign(0)", teller.sign(0), -1);
            check.same("told(0)", teller.told(0), -1);
            check.same("count(5)", teller.count(5), 0);
            check.same("count(6)", teller.count(6), 0);
        }
    }

    private static void noneWithFault(Check check) {
        check.sentence(PART, "NONE with a FAULT");
        String[] texts = {"place a", "place a;place a;", ";", "region r=a;", "band 0 x 1 1 1;", "band 3 x 0 1 1;"};
        for (String text : texts) {
            WeatherTeller teller = changedTeller();
            teller.tell(400);
            check.same("rules '" + text + "'", Check.rules(teller, text), -1);
            // The document tells of nothing else that a FAULT does.
            check.same("places", teller.count(0), 2);
            check.same("regions", teller.count(1), 1);
            check.same("bands", teller.count(2), 1);
            check.same("number", teller.number(0, 1, 4), 7);
            check.same("changed", teller.changed(0, 1), 3);
            check.finding(teller, 0, "0 4 4 3 4 0 9 4 0");
            check.same("text", Check.text(teller), "r: x 4-4.");
            check.same("told(0)", teller.told(0), 0);
        }
    }

    private static void notSoMany(Check check) {
        check.sentence(PART, "-2, and the TAPE stays: there are not so many, n is below 0.");
        WeatherTeller teller = changedTeller();
        teller.tell(400);
        for (int n : new int[] {1, 20, 1000, 1001, Integer.MAX_VALUE, -1, -2, Integer.MIN_VALUE}) {
            check.same("rules(" + n + ") of an empty tape", teller.rules(n), -2);
        }
        Check.feedText(teller, "place q;;           ");
        for (int n : new int[] {21, 40, 1001, Integer.MAX_VALUE, -1, -20, Integer.MIN_VALUE}) {
            check.same("rules(" + n + ") of 20", teller.rules(n), -2);
            check.same("places", teller.count(0), 2);
            check.same("number", teller.number(0, 0, 4), 7);
            check.same("changed", teller.changed(0, 1), 3);
            check.same("text", Check.text(teller), "r: x 4-4.");
        }
        check.same("rules(8)", teller.rules(8), 0);
        check.same("places", teller.count(0), 1);
    }

    /** Both TABLES have a number of both PLACES at 4. */
    private static WeatherTeller changedTeller() {
        WeatherTeller teller = Check.withRules(RULES);
        for (int place = 0; place < 2; place++) {
            teller.put(0, place, 4, 4, 5, 0);
        }
        teller.next();
        for (int place = 0; place < 2; place++) {
            teller.put(0, place, 4, 4, 7, 0);
        }
        return teller;
    }

    private static int rulesOf(WeatherTeller teller, String text, int n) {
        Check.feedText(teller, text);
        return teller.rules(n);
    }
}
