/** Promises 3 and 4: rules and fault. */
public final class RulesTest {
    public static void main(String[] args) {
        Check check = new Check();
        goodTexts(check);
        faultsOfTokens(check);
        faultsOfTooMuch(check);
        faultsOfNamesAndWords(check);
        faultsOfBounds(check);
        firstFaultTells(check);
        tapeIsEmptyThenOrStays(check);
        rulesStartAnew(check);
        rulesWithFaultChangeNothingElse(check);
        faultAnswers(check);
        check.end();
    }

    private static void goodTexts(Check check) {
        check.rules("", 0);
        check.rules(" \n ", 0);
        check.rules("place a;", 0);
        check.rules("place abcdefghijkl;", 0);
        check.rules("\nplace\na\n;\n", 0);
        check.rules("band0x0 9 1warn;", 1);
        check.rules("band 0 x -5-3 1;", 1);
        check.rules("band 0 x -99 999 9 warn;", 1);
        check.rules("band 002 x -0 0001 01;", 1);
        check.rules("band -0 x 998 999 1;", 1);
        check.rules("place a;region r=a,a,a;region s=r,a;", 0);
        check.rules("place a ; region r = a , a \n, a ;", 0);
        check.rules("place calm;band 0 calm 0 1 1;", 1);
        check.rules("band 0 x 0 9 1;band 0 y 9 10 1;band 0 z -5 0 1;", 3);
        check.rules("band 0 x 0 9 1;band 1 y 0 9 1;band 2 z 0 9 1;", 3);
        check.rules("place places;place warns;place b;place bu;place regio;", 0);
        StringBuilder text = new StringBuilder("place a;place b;place c;place d;place e;place f;");
        text.append("region r=a;region s=a;region t=a;region u=a;region v=a;");
        for (int k = 0; k < 24; k++) {
            text.append("band 0 w").append((char) ('a' + k)).append(" ").append(k).append(" ").append(k + 1).append(" 1;");
        }
        check.rules(text.toString(), 24);
    }

    private static void faultsOfTokens(Check check) {
        check.fault("x", 1, 0);
        check.fault("  Place a;", 1, 2);
        check.fault("\tplace a;", 1, 0);
        check.fault(";", 1, 0);
        check.fault("5", 1, 0);
        check.fault("warn;", 1, 0);
        check.fault("but;", 1, 0);
        check.fault("place", 1, 5);
        check.fault("place  ", 1, 7);
        check.fault("place a", 1, 7);
        check.fault("place a \n", 1, 9);
        check.fault("place a b;", 1, 8);
        check.fault("place a,b;", 1, 7);
        check.fault("place a;;", 1, 8);
        check.fault("place 5;", 1, 6);
        check.fault("place abcdefghijklm;", 1, 6);
        check.fault("placeplaceplace a;", 1, 0);
        for (String word : new String[] {"place", "region", "band", "warn", "but"}) {
            check.fault("place " + word + ";", 1, 6);
            check.fault("region " + word + "=a;", 1, 7);
            check.fault("place a;region r=" + word + ";", 1, 17);
            check.fault("band 0 " + word + " 0 1 1;", 1, 7);
        }
        check.fault("region r", 1, 8);
        check.fault("region r;", 1, 8);
        check.fault("region r=", 1, 9);
        check.fault("region r=;", 1, 9);
        check.fault("place a;region r=a", 1, 18);
        check.fault("place a;region r=a,", 1, 19);
        check.fault("place a;region r=a a;", 1, 19);
        check.fault("place a;region r==a;", 1, 17);
        check.fault("band", 1, 4);
        check.fault("band x", 1, 5);
        check.fault("band 0", 1, 6);
        check.fault("band 0 5", 1, 7);
        check.fault("band 0 x", 1, 8);
        check.fault("band 0 x y", 1, 9);
        check.fault("band 0 x - 5 6 1;", 1, 9);
        check.fault("band 0 x --5 6 1;", 1, 9);
        check.fault("band 0 x 5", 1, 10);
        check.fault("band 0 x 5 -", 1, 11);
        check.fault("band 0 x 5 +6 1;", 1, 11);
        check.fault("band 0 x 5 6", 1, 12);
        check.fault("band 0 x 5 6 ;", 1, 13);
        check.fault("band 0 x 5 6 1", 1, 14);
        check.fault("band 0 x 5 6 1 2", 1, 15);
        check.fault("band 0 x 5 6 1 warm;", 1, 15);
        check.fault("band 0 x 5 6 1 warn", 1, 19);
        check.fault("band 0 x 5 6 1 warn warn;", 1, 20);
    }

    private static void faultsOfTooMuch(Check check) {
        String places = "place a;place b;place c;place d;place e;place f;";
        check.fault(places + " place", 2, 49);
        check.fault(places + "place a;", 2, 48);
        String regions = "place a;region r=a;region s=a;region t=a;region u=a;region v=a;";
        check.fault(regions + "region", 2, 63);
        StringBuilder bands = new StringBuilder();
        for (int k = 0; k < 24; k++) {
            bands.append("band 0 w").append((char) ('a' + k)).append(" ").append(k).append(" ").append(k + 1).append(" 1;");
        }
        check.fault(bands + "band", 2, bands.length());
        check.fault("band 3", 2, 5);
        check.fault("band -1", 2, 5);
        check.fault("band 4294967296", 2, 5);
        check.fault("band 0 x -100", 2, 9);
        check.fault("band 0 x 1000", 2, 9);
        check.fault("band 0 x 99999999999999999999", 2, 9);
        check.fault("band 0 x 4294967296 5 1;", 2, 9);
        check.fault("band 0 x -18446744073709551616 5 1;", 2, 9);
        check.fault("band 0 x 0 1000", 2, 11);
        check.fault("band 0 x 0 1 0", 2, 13);
        check.fault("band 0 x 0 1 10", 2, 13);
        check.fault("band 0 x 0 1 -1", 2, 13);
    }

    private static void faultsOfNamesAndWords(Check check) {
        check.fault("place a;place a", 3, 14);
        check.fault("place a;region a", 3, 15);
        check.fault("place a;region r=a;place r", 3, 25);
        check.fault("place a;region r=a;region r", 3, 26);
        check.fault("band 0 x 0 1 1;band 0 x", 3, 22);
        check.fault("band 0 x 0 1 1;band 2 x", 3, 22);
        check.fault("region r=a;place a;", 4, 9);
        check.fault("place a;region r=r;", 4, 17);
        check.fault("place a;region r=a,b", 4, 19);
        check.fault("place a;band 0 x 0 1 1;region r=x", 4, 32);
    }

    private static void faultsOfBounds(Check check) {
        check.fault("band 0 x 5 5", 5, 9);
        check.fault("band 0 x 5 4 0", 5, 9);
        check.fault("band 0 x  5 -5 1;", 5, 10);
        check.fault("band 0 x 0 9 1;band 0 y 8 12", 5, 24);
        check.fault("band 0 x 0 9 1;band 0 y -5 1 1;", 5, 24);
        check.fault("band 0 x 0 9 1;band 0 y 3 4 1;", 5, 24);
        check.fault("band 0 x 3 4 1;band 0 y 0 9 1;", 5, 24);
        check.fault("band 0 x 0 9 1;band 1 y 0 9 1;band 1 z 0 9 1;", 5, 39);
    }

    private static void firstFaultTells(Check check) {
        check.fault("place a;place a;region r=x;", 3, 14);
        check.fault("region r=x;place a;place a;", 4, 9);
        check.fault("band 0 x 1000 5 0", 2, 9);
        check.fault("band 0 x 5 5 99", 5, 9);
        // A number that is out of its span is met ahead of the bounds' fault.
        check.fault("band 0 x 5 -100 1;", 2, 11);
    }

    private static void tapeIsEmptyThenOrStays(Check check) {
        WeatherTeller teller = new WeatherTeller();
        Check.feedText(teller, "place a;place b;    ");
        check.same("rules(21)", teller.rules(21), -2);
        check.same("rules(-1)", teller.rules(-1), -2);
        check.same("rules(least)", teller.rules(Integer.MIN_VALUE), -2);
        check.same("fault(0) after -2", teller.fault(0), 0);
        check.same("rules of the first 8", teller.rules(8), 0);
        check.same("places", teller.count(0), 1);
        check.same("the tape is empty", teller.rules(1), -2);
        Check.feedText(teller, "place a;            ");
        check.same("the first 7 have no ;", teller.rules(7), -1);
        check.same("fault(1)", teller.fault(1), 7);
        Check.feedText(teller, "band 0 x 0 1 12345; ");
        check.same("the first 14 have no ;", teller.rules(14), -1);
        check.same("fault(0)", teller.fault(0), 1);
        check.same("fault(1)", teller.fault(1), 14);
        Check.feedText(teller, "band 0 x 0 1 1 warn;");
        check.same("the first 18 have no ;", teller.rules(18), -1);
        check.same("fault(1)", teller.fault(1), 15);
        Check.feedText(teller, "place b;place b;    ");
        check.same("rules with a fault", teller.rules(16), -1);
        check.same("the tape is empty", teller.rules(1), -2);
        check.same("fault(0) stays", teller.fault(0), 3);
        check.same("fault(1) stays", teller.fault(1), 14);
        check.same("rules(0)", teller.rules(0), 0);
        check.same("fault(0)", teller.fault(0), 0);
        check.same("places", teller.count(0), 0);
    }

    private static void rulesStartAnew(Check check) {
        String text = "place a;band 0 x 0 9 1;";
        WeatherTeller teller = Check.withRules(text);
        teller.put(0, 0, 0, 0, 5, 0);
        teller.next();
        teller.put(0, 0, 0, 0, 7, 0);
        check.same("changed", teller.changed(0, 1), 1);
        check.same("tell", teller.tell(400), 9);
        check.same("rules", Check.rules(teller, text), 1);
        check.same("number", teller.number(0, 0, 0), -100);
        check.same("findings", teller.count(3), 0);
        check.same("no text", teller.sign(0), -1);
        check.same("no text", teller.told(0), -1);
        check.same("no text", teller.count(5), 0);
        check.same("no text", teller.count(6), 0);
        teller.put(0, 0, 0, 0, 9, 0);
        check.same("before is missing", teller.changed(0, 0), 0);
    }

    private static void rulesWithFaultChangeNothingElse(Check check) {
        WeatherTeller teller = Check.withRules("place a;place b;region r=a,b;band 0 x 0 9 2;");
        teller.put(0, 0, 3, 4, 5, 0);
        teller.tell(400);
        check.same("rules with a fault", Check.rules(teller, "place c;band 0 y 0 9 1;band 0 y"), -1);
        check.same("places", teller.count(0), 2);
        check.same("regions", teller.count(1), 1);
        check.same("bands", teller.count(2), 1);
        check.same("number", teller.number(0, 0, 3), 5);
        check.finding(teller, 0, "0 3 4 1 4 0 9 1 0");
        check.same("text", Check.text(teller), "a: x 3-4.");
    }

    private static void faultAnswers(Check check) {
        WeatherTeller teller = new WeatherTeller();
        check.same("fault(2)", teller.fault(2), -1);
        check.same("fault(-1)", teller.fault(-1), -1);
        Check.rules(teller, "x");
        check.same("fault(2)", teller.fault(2), -1);
        check.same("fault(0)", teller.fault(0), 1);
        check.same("fault(1)", teller.fault(1), 0);
        Check.rules(teller, "place a;");
        check.same("fault(0)", teller.fault(0), 0);
        check.same("fault(1)", teller.fault(1), -1);
    }
}
