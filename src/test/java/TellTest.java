/** Promises 9, 10 and 11: tell, sign and told. */
public final class TellTest {
    public static void main(String[] args) {
        Check check = new Check();
        rooms(check);
        warningsComeFirst(check);
        greatestWeight(check);
        fewestSignsOfLikeWeight(check);
        firstFindingOfLikeSigns(check);
        orderOfTheOthers(check);
        clauses(check);
        theTextAtHandStays(check);
        check.end();
    }

    private static void rooms(Check check) {
        WeatherTeller teller = Check.withRules("place a;band 0 x 0 9 1;");
        check.told(teller, 0, "");
        check.told(teller, 400, "");
        teller.put(0, 0, 3, 5, 0, 0);
        check.told(teller, 400, "a: x 3-5.");
        check.same("tell(-1)", teller.tell(-1), -1);
        check.same("tell(401)", teller.tell(401), -1);
        check.same("tell(least)", teller.tell(Integer.MIN_VALUE), -1);
        check.same("the text stays", Check.text(teller), "a: x 3-5.");
        check.told(teller, 10, "a: x 3-5.");
        check.told(teller, 9, "");
        check.told(teller, 0, "");
    }

    private static void warningsComeFirst(Check check) {
        WeatherTeller teller = Check.withRules(
            "place a;band 0 x 0 9 9;band 0 w 9 12 1 warn;band 0 v 12 15 1 warn;");
        teller.put(0, 0, 0, 3, 0, 0);
        teller.put(0, 0, 5, 5, 9, 0);
        teller.put(0, 0, 4, 4, 12, 0);
        check.told(teller, 0, "a: w 5-5. a: v 4-4.");
        check.told(teller, 18, "a: w 5-5. a: v 4-4.");
        check.told(teller, 28, "a: w 5-5. a: v 4-4.");
        check.told(teller, 29, "a: w 5-5. a: v 4-4. a: x 0-3.");
        check.same("told(0)", teller.told(0), 1);
        check.same("told(1)", teller.told(1), 2);
        check.same("told(2)", teller.told(2), 0);
        check.same("told(3)", teller.told(3), -1);
        check.same("told(-1)", teller.told(-1), -1);
        check.same("count(6)", teller.count(6), 9 * 4 + 2);
    }

    private static void greatestWeight(Check check) {
        // Two short ones weigh more together than the long one that is the heaviest.
        WeatherTeller teller = Check.withRules(
            "place a;band 0 verylongword 0 9 5;band 1 x 0 9 3;band 2 y 0 9 3;");
        teller.put(0, 0, 0, 0, 0, 0);
        teller.put(1, 0, 0, 0, 0, 0);
        teller.put(2, 0, 0, 0, 0, 0);
        check.told(teller, 21, "a: x 0-0. a: y 0-0.");
        check.told(teller, 20, "a: x 0-0. a: y 0-0.");
        check.told(teller, 19, "a: x 0-0.");
        check.told(teller, 31, "a: verylongword 0-0. a: x 0-0.");
        check.told(teller, 41, "a: verylongword 0-0. a: x 0-0. a: y 0-0.");
    }

    private static void fewestSignsOfLikeWeight(Check check) {
        WeatherTeller teller = Check.withRules("place a;band 0 long 0 9 5;band 1 x 0 9 5;");
        teller.put(0, 0, 0, 0, 0, 0);
        teller.put(1, 0, 0, 0, 0, 0);
        check.told(teller, 22, "a: x 0-0.");
        check.told(teller, 23, "a: long 0-0. a: x 0-0.");
        // One of weight 6 needs fewer signs than two of weight 3.
        teller = Check.withRules("place a;band 0 x 0 9 3;band 1 y 0 9 3;band 2 zzzzzzz 0 9 6;");
        teller.put(0, 0, 0, 0, 0, 0);
        teller.put(1, 0, 0, 0, 0, 0);
        teller.put(2, 0, 0, 0, 0, 0);
        check.told(teller, 20, "a: zzzzzzz 0-0.");
    }

    private static void firstFindingOfLikeSigns(Check check) {
        WeatherTeller teller = Check.withRules(
            "place a;band 0 x 0 9 5;band 1 y 0 9 5;band 2 z 0 9 5;");
        teller.put(0, 0, 9, 9, 0, 0);
        teller.put(1, 0, 5, 5, 0, 0);
        teller.put(2, 0, 1, 1, 0, 0);
        check.told(teller, 10, "a: x 9-9.");
        check.told(teller, 20, "a: y 5-5. a: x 9-9.");
        // Sets {0, 3} and {1, 2} weigh the same and need the same: the first finding tells.
        check.told(fourBands("pppp", 4, "qqq", 3, "rr", 2, "s", 1), 23, "a: pppp 0-0. a: s 3-3.");
        check.told(fourBands("qqq", 3, "pppp", 4, "s", 1, "rr", 2), 23, "a: qqq 0-0. a: rr 3-3.");
    }

    private static WeatherTeller fourBands(Object... wordsAndGrades) {
        StringBuilder text = new StringBuilder("place a;");
        for (int k = 0; k < 4; k++) {
            text.append("band 0 ").append(wordsAndGrades[2 * k]).append(" ").append(k).append(" ").append(k + 1);
            text.append(" ").append(wordsAndGrades[2 * k + 1]).append(";");
        }
        WeatherTeller teller = Check.withRules(text.toString());
        teller.put(0, 0, 0, 3, 0, 1);
        return teller;
    }

    private static void orderOfTheOthers(Check check) {
        WeatherTeller teller = Check.withRules("place a;place b;band 0 x 0 9 2;band 1 y 0 9 1;");
        teller.put(0, 0, 8, 8, 0, 0);
        teller.put(0, 0, 3, 3, 0, 0);
        teller.put(0, 1, 8, 8, 0, 0);
        teller.put(1, 0, 2, 3, 0, 0);
        teller.put(1, 1, 3, 4, 0, 0);
        check.told(teller, 400, "a, b: x 8-8. a: y 2-3. a: x 3-3. b: y 3-4.");
        int[] due = {1, 2, 0, 3, -1};
        for (int k = 0; k < due.length; k++) {
            check.same("told(" + k + ")", teller.told(k), due[k]);
        }
    }

    private static void clauses(Check check) {
        WeatherTeller teller = Check.withRules(
            "place a;place bb;place c;place d;place e;place f;region all=a,bb,c,d,e,f;region r=a,bb,c;"
            + "band 0 wet 0 9 1;");
        for (int place = 0; place < 6; place++) {
            teller.put(0, place, 9, 10, 1, 0);
        }
        check.told(teller, 400, "all: wet 9-10.");
        teller.miss(0, 1, 0, 23);
        check.told(teller, 400, "all but bb: wet 9-10.");
        teller.miss(0, 4, 0, 23);
        check.told(teller, 400, "all but bb, e: wet 9-10.");
        teller.put(0, 1, 9, 10, 1, 0);
        teller.miss(0, 5, 0, 23);
        check.told(teller, 400, "d, r: wet 9-10.");
        teller.miss(0, 2, 0, 23);
        check.told(teller, 400, "a, bb, d: wet 9-10.");
    }

    private static void theTextAtHandStays(Check check) {
        WeatherTeller teller = Check.withRules("place a;band 0 x 0 9 1;band 0 y 9 10 1;");
        teller.put(0, 0, 5, 5, 9, 0);
        check.told(teller, 400, "a: y 5-5.");
        check.same("told(0)", teller.told(0), 0);
        teller.put(0, 0, 1, 1, 0, 0);
        check.same("the text stays", Check.text(teller), "a: y 5-5.");
        check.same("told(0) as it was numbered", teller.told(0), 0);
        check.same("sign(-1)", teller.sign(-1), -1);
        check.same("sign(9)", teller.sign(9), -1);
        check.same("sign(greatest)", teller.sign(Integer.MAX_VALUE), -1);
        check.same("rules of none", teller.rules(5), -2);
        check.same("the text stays", Check.text(teller), "a: y 5-5.");
    }
}
