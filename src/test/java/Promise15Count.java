/** Promise 15, sentence by sentence. */
final class Promise15Count {
    private static final String PART = "Promise 15";

    private Promise15Count() {
    }

    static void hold(Check check) {
        ofRules(check);
        asManyAsTheRulesMayHave(check);
        ofFindings(check);
        ofTheText(check);
        ofNoText(check);
        anotherWhat(check);
    }

    private static void ofRules(Check check) {
        check.sentence(PART, "0 PLACES, 1 REGIONS, 2 BANDS");
        counts(check, new WeatherTeller(), 0, 0, 0);
        counts(check, Check.withRules("place a;"), 1, 0, 0);
        counts(check, Check.withRules("place a;region r=a;"), 1, 1, 0);
        counts(check, Check.withRules("band 0 x 0 1 1;"), 0, 0, 1);
        counts(check, Check.withRules("place a;place b;region r=a;band 0 x 0 1 1;band 0 y 1 2 1;band 0 z 2 3 1;"), 2, 1, 3);
    }

    private static void asManyAsTheRulesMayHave(Check check) {
        check.sentence(PART, "0 PLACES, 1 REGIONS, 2 BANDS");
        StringBuilder text = new StringBuilder("place a;place b;place c;place d;place e;place f;");
        text.append("region r=a;region s=a;region t=a;region u=a;region v=a;");
        for (int band = 0; band < 24; band++) {
            text.append("band 1 w").append((char) ('a' + band));
            text.append(" ").append(band).append(" ").append(band + 1).append(" 1;");
        }
        counts(check, Check.withRules(text.toString()), 6, 5, 24);
    }

    private static void ofFindings(Check check) {
        check.sentence(PART, "3 FINDINGS, 4 WARNINGS among them");
        WeatherTeller teller = Check.withRules("place a;band 0 x 0 9 1;band 0 w 9 10 1 warn;");
        int[][] puts = {{0, 0, 1, 0}, {5, 9, 1, 1}, {7, 9, 1, 2}, {9, 0, 2, 2}};
        check.same("count(3)", teller.count(3), 0);
        check.same("count(4)", teller.count(4), 0);
        for (int[] put : puts) {
            teller.put(0, 0, put[0], put[0], put[1], 0);
            check.same("count(3)", teller.count(3), put[2] + put[3]);
            check.same("count(4)", teller.count(4), put[3]);
        }
        // What is asked for first makes no difference.
        teller.put(0, 0, 11, 11, 9, 0);
        check.same("count(4) ahead of count(3)", teller.count(4), 3);
        check.same("count(3)", teller.count(3), 5);
        for (int warnings = 0; warnings <= 24; warnings += 8) {
            teller = Full.day(warnings);
            check.same("count(3) of as many as can be", teller.count(3), 432);
            check.same("count(4) of as many as can be", teller.count(4), warnings * 18);
        }
    }

    private static void ofTheText(Check check) {
        check.sentence(PART, "5 FINDINGS of the text at hand, 6 its WEIGHT in all.");
        WeatherTeller teller = Check.withRules("place a;band 0 x 0 9 2;band 0 w 9 10 3 warn;");
        teller.put(0, 0, 0, 4, 0, 0);
        teller.put(0, 0, 6, 7, 9, 0);
        text(check, teller, 400, 2, 16);
        text(check, teller, 0, 1, 6);
        teller.put(0, 0, 0, 23, 9, 0);
        check.same("count(5) behind put", teller.count(5), 1);
        check.same("count(6) behind put", teller.count(6), 6);
        teller.tell(-1);
        check.same("count(5) behind a refused tell", teller.count(5), 1);
        check.same("count(6) behind a refused tell", teller.count(6), 6);
        teller.miss(0, 0, 0, 23);
        text(check, teller, 400, 0, 0);
        text(check, Full.day(24), 0, 432, 432 * 9);
        text(check, Full.day(0), 0, 0, 0);
    }

    private static void ofNoText(Check check) {
        check.sentence(PART, "5 FINDINGS of the text at hand, 6 its WEIGHT in all.");
        check.same("count(5) of a new object", new WeatherTeller().count(5), 0);
        check.same("count(6) of a new object", new WeatherTeller().count(6), 0);
        WeatherTeller teller = Full.day(24);
        check.same("count(5) ahead of tell", teller.count(5), 0);
        check.same("count(6) ahead of tell", teller.count(6), 0);
        teller.tell(400);
        teller.rules(0);
        check.same("count(5) behind rules", teller.count(5), 0);
        check.same("count(6) behind rules", teller.count(6), 0);
    }

    private static void anotherWhat(Check check) {
        check.sentence(PART, "NONE for another what.");
        for (int what : new int[] {-1, 7, 8, Integer.MIN_VALUE, Integer.MAX_VALUE}) {
            check.same("count(" + what + ") of a new object", new WeatherTeller().count(what), -1);
            check.same("count(" + what + ")", Full.day(24).count(what), -1);
        }
    }

    private static void counts(Check check, WeatherTeller teller, int places, int regions, int bands) {
        check.same("count(0)", teller.count(0), places);
        check.same("count(1)", teller.count(1), regions);
        check.same("count(2)", teller.count(2), bands);
    }

    private static void text(Check check, WeatherTeller teller, int room, int findings, int weight) {
        teller.tell(room);
        check.same("count(5) behind tell(" + room + ")", teller.count(5), findings);
        check.same("count(6) behind tell(" + room + ")", teller.count(6), weight);
    }
}
