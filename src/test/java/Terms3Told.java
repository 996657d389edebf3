/** Part 3 of the terms, sentence by sentence: what is TOLD in a ROOM. */
final class Terms3Told {
    private static final String PART = "Terms 3";

    private Terms3Told() {
    }

    static void hold(Check check) {
        rooms(check);
        allWarnings(check);
        greatestWeight(check);
        asManySignsAsRoomHas(check);
        behindTheWarnings(check);
        warningsFillTheRoom(check);
        roomIsJustEnough(check);
        fewestSigns(check);
        firstFinding(check);
        fullRoom(check);
        withoutWarnings(check);
        orderOfWarnings(check);
        orderOfTheOthers(check);
        oneBlankBetween(check);
    }

    private static void rooms(Check check) {
        check.sentence(PART, "TOLD in a ROOM (0 .. 400 signs)");
        WeatherTeller teller = Full.day(0);
        check.same("tell(0)", teller.tell(0), 0);
        check.same("tell(1)", teller.tell(1), 0);
        // Twelve CLAUSES of 31 signs, with a blank ahead of each, are 384.
        check.same("tell(399)", teller.tell(399), 383);
        check.same("tell(400)", teller.tell(400), 383);
        check.same("tell(-1)", teller.tell(-1), -1);
        check.same("tell(401)", teller.tell(401), -1);
    }

    private static void allWarnings(Check check) {
        check.sentence(PART, "all WARNINGS, whatever they need");
        for (int room : new int[] {0, 1, 200, 399, 400}) {
            WeatherTeller teller = Full.day(24);
            // A CLAUSE has 31 signs, two more from 10 on, and a blank between two.
            check.same("tell(" + room + ")", teller.tell(room), 432 * 32 + 18 * 14 * 2 - 1);
            check.same("count(5)", teller.count(5), 432);
        }
        WeatherTeller teller = Check.withRules("place a;band 0 w 0 9 1 warn;");
        teller.put(0, 0, 3, 3, 0, 0);
        check.told(teller, 0, "a: w 3-3.");
        check.told(teller, 8, "a: w 3-3.");
        check.told(teller, 9, "a: w 3-3.");
    }

    private static void greatestWeight(Check check) {
        check.sentence(PART, "of the others the set with the greatest WEIGHT in all");
        // The heaviest alone is less than two that need as much together.
        WeatherTeller teller = bands("verylongword 5", "x 3", "y 3");
        check.told(teller, 20, "a: x 1-1. a: y 2-2.");
        check.told(teller, 21, "a: x 1-1. a: y 2-2.");
        check.told(teller, 30, "a: x 1-1. a: y 2-2.");
        check.told(teller, 31, "a: verylongword 0-0. a: x 1-1.");
        check.told(teller, 40, "a: verylongword 0-0. a: x 1-1.");
        check.told(teller, 41, "a: verylongword 0-0. a: x 1-1. a: y 2-2.");
        // One that weighs more than the two others together.
        teller = bands("verylongword 7", "x 3", "y 3");
        check.told(teller, 20, "a: x 1-1. a: y 2-2.");
        check.told(teller, 21, "a: verylongword 0-0.");
    }

    private static void asManySignsAsRoomHas(Check check) {
        check.sentence(PART,
            "whose CLAUSES, each with one blank ahead of it, have as many signs together as ROOM has behind the WARNINGS'");
        WeatherTeller teller = bands("x 1", "y 1", "z 1");
        check.told(teller, 9, "");
        check.told(teller, 10, "a: x 0-0.");
        check.told(teller, 19, "a: x 0-0.");
        check.told(teller, 20, "a: x 0-0. a: y 1-1.");
        check.told(teller, 29, "a: x 0-0. a: y 1-1.");
        check.told(teller, 30, "a: x 0-0. a: y 1-1. a: z 2-2.");
        check.told(teller, 400, "a: x 0-0. a: y 1-1. a: z 2-2.");
    }

    private static void behindTheWarnings(Check check) {
        check.sentence(PART, "(each with one blank ahead, the first one without");
        WeatherTeller teller = bands("w 1 warn", "x 1", "y 1");
        check.told(teller, 9, "a: w 0-0.");
        check.told(teller, 18, "a: w 0-0.");
        check.told(teller, 19, "a: w 0-0. a: x 1-1.");
        check.told(teller, 28, "a: w 0-0. a: x 1-1.");
        check.told(teller, 29, "a: w 0-0. a: x 1-1. a: y 2-2.");
        teller = bands("w 1 warn", "v 1 warn", "x 1", "y 1");
        check.told(teller, 28, "a: w 0-0. a: v 1-1.");
        check.told(teller, 29, "a: w 0-0. a: v 1-1. a: x 2-2.");
        check.told(teller, 38, "a: w 0-0. a: v 1-1. a: x 2-2.");
        check.told(teller, 39, "a: w 0-0. a: v 1-1. a: x 2-2. a: y 3-3.");
    }

    private static void warningsFillTheRoom(Check check) {
        check.sentence(PART, "below 0: nothing more)");
        WeatherTeller teller = bands("w 1 warn", "v 1 warn", "x 9");
        for (int room = 0; room <= 28; room++) {
            check.told(teller, room, "a: w 0-0. a: v 1-1.");
            teller = bands("w 1 warn", "v 1 warn", "x 9");
        }
        check.told(teller, 29, "a: w 0-0. a: v 1-1. a: x 2-2.");
        // Far below 0: all but the last eight BANDS are WARNINGS.
        for (int room : new int[] {0, 399, 400}) {
            teller = Full.day(16);
            check.same("tell(" + room + ")", teller.tell(room), 288 * 32 + 12 * 14 * 2 - 1);
            check.same("count(5)", teller.count(5), 288);
        }
    }

    /** Twelve WARNINGS have 373 signs; the other CLAUSE has 26 to 28 with its blank. */
    private static void roomIsJustEnough(Check check) {
        check.sentence(PART, "have as many signs together as ROOM has behind the WARNINGS'");
        for (int letters = 6; letters <= 8; letters++) {
            WeatherTeller teller = Check.withRules(
                "place pppppppppppp;band 1 " + "x".repeat(letters) + " 0 1 1;band 0 wwwwwwwwww 0 1 1 warn;");
            for (int hour = 0; hour <= 22; hour += 2) {
                teller.put(0, 0, hour, hour, 0, 0);
            }
            teller.put(1, 0, 7, 7, 0, 0);
            int whole = 373 + 20 + letters;
            check.same("tell(0)", teller.tell(0), 373);
            check.same("tell(398)", teller.tell(398), 373);
            check.same("tell(399)", teller.tell(399), whole <= 399 ? whole : 373);
            check.same("tell(400)", teller.tell(400), whole <= 400 ? whole : 373);
        }
    }

    private static void fewestSigns(Check check) {
        check.sentence(PART, "of several that with the fewest signs");
        WeatherTeller teller = bands("long 5", "x 5");
        check.told(teller, 22, "a: x 1-1.");
        check.told(teller, 13, "a: x 1-1.");
        check.told(teller, 23, "a: long 0-0. a: x 1-1.");
        // One of 6 that has fewer signs than two of 3, and the other way round.
        check.told(bands("x 3", "y 3", "zzzzzzz 6"), 20, "a: zzzzzzz 2-2.");
        check.told(bands("x 3", "y 3", "zzzzzzzzzzz 6"), 20, "a: x 0-0. a: y 1-1.");
        check.told(bands("x 3", "y 3", "zzzzzzzzzzzz 6"), 25, "a: x 0-0. a: y 1-1.");
        // The blanks ahead count: two CLAUSES of 9 signs have 20, one of 19 signs has 20 as well.
        check.told(bands("zzzzzzzzzzz 6", "x 3", "y 3"), 20, "a: zzzzzzzzzzz 0-0.");
    }

    private static void firstFinding(Check check) {
        check.sentence(PART, "of several that which has the first FINDING that they don't both have.");
        WeatherTeller teller = bands("x 5", "y 5", "z 5");
        check.told(teller, 10, "a: x 0-0.");
        check.told(teller, 20, "a: x 0-0. a: y 1-1.");
        // {0, 3} and {1, 2} weigh and need the same; so do {0, 2} and {1, 3}.
        check.told(bands("pppp 4", "qqq 3", "rr 2", "s 1"), 23, "a: pppp 0-0. a: s 3-3.");
        check.told(bands("qqq 3", "pppp 4", "s 1", "rr 2"), 23, "a: qqq 0-0. a: rr 3-3.");
        check.told(bands("s 1", "qqq 3", "rr 2", "pppp 4"), 23, "a: pppp 3-3. a: s 0-0.");
        check.told(bands("rr 2", "pppp 4", "s 1", "qqq 3"), 23, "a: qqq 3-3. a: rr 0-0.");
        // The first FINDING is the one with the least number, not the one that is told first.
        teller = Check.withRules("place a;band 0 x 0 1 1;band 0 y 1 2 1;");
        teller.put(0, 0, 9, 9, 0, 0);
        teller.put(0, 0, 3, 3, 1, 0);
        check.told(teller, 10, "a: x 9-9.");
        check.told(teller, 20, "a: y 3-3. a: x 9-9.");
    }

    /** Many that are alike in a full ROOM: the first ones are told. */
    private static void fullRoom(Check check) {
        check.sentence(PART, "of several that which has the first FINDING that they don't both have.");
        WeatherTeller teller = Full.day(0);
        // CLAUSES below 10 have 32 signs with their blank: twelve of these are 384.
        check.same("tell(383)", teller.tell(383), 11 * 32 - 1);
        check.same("tell(384)", teller.tell(384), 12 * 32 - 1);
        check.same("tell(400)", teller.tell(400), 12 * 32 - 1);
        check.same("count(5)", teller.count(5), 12);
        int seen = 0;
        for (int number = 0; seen < 12; number++) {
            if (teller.finding(number, 6) == 31) {
                check.isTrue("finding " + number + " is told", isTold(teller, number));
                seen++;
            }
        }
    }

    private static boolean isTold(WeatherTeller teller, int number) {
        for (int k = 0; k < 12; k++) {
            if (teller.told(k) == number) {
                return true;
            }
        }
        return false;
    }

    private static void withoutWarnings(Check check) {
        check.sentence(PART, "(If there is no WARNING, the first CLAUSE's blank counts as well.)");
        for (int word = 1; word <= 12; word++) {
            WeatherTeller teller = bands("x".repeat(word) + " 1");
            String due = "a: " + "x".repeat(word) + " 0-0.";
            check.told(teller, due.length() - 1, "");
            check.told(teller, due.length(), "");
            check.told(teller, due.length() + 1, due);
        }
        // A BAND that is a WARNING but is not found does not count.
        WeatherTeller teller = Check.withRules("place a;band 0 x 0 1 1;band 1 w 0 1 1 warn;");
        teller.put(0, 0, 0, 0, 0, 0);
        check.told(teller, 9, "");
        check.told(teller, 10, "a: x 0-0.");
    }

    private static void orderOfWarnings(Check check) {
        check.sentence(PART, "In order: WARNINGS as FINDINGS are");
        WeatherTeller teller = Check.withRules("place a;place b;band 0 w 0 1 1 warn;band 1 x 0 1 9;band 2 v 0 1 9 warn;");
        teller.put(0, 0, 9, 9, 0, 0);
        teller.put(0, 1, 5, 5, 0, 0);
        teller.put(2, 0, 0, 23, 0, 0);
        teller.put(1, 0, 0, 23, 0, 0);
        check.told(teller, 400, "b: w 5-5. a: w 9-9. a: v 0-23. a: x 0-23.");
        int[] due = {0, 1, 3, 2};
        for (int k = 0; k < 4; k++) {
            check.same("told(" + k + ")", teller.told(k), due[k]);
        }
    }

    private static void orderOfTheOthers(Check check) {
        check.sentence(PART,
            "then the others by WEIGHT, the greater first, of like ones the earlier from, of like ones as FINDINGS are.");
        check.told(bands("x 1", "y 3", "z 2"), 400, "a: y 1-1. a: z 2-2. a: x 0-0.");
        WeatherTeller teller = Check.withRules("place a;place b;band 0 x 0 9 2;band 1 y 0 9 1;band 2 z 0 9 4;");
        teller.put(0, 0, 8, 8, 0, 0);
        teller.put(0, 1, 3, 3, 0, 0);
        teller.put(1, 0, 2, 3, 0, 0);
        teller.put(1, 1, 3, 4, 0, 0);
        teller.put(2, 0, 23, 23, 0, 0);
        // 2 and 2 each, but for the last one; "x 3-3" and "y 3-4" are alike but for their numbers.
        check.told(teller, 400, "a: z 23-23. a: y 2-3. b: x 3-3. b: y 3-4. a: x 8-8.");
    }

    private static void oneBlankBetween(Check check) {
        check.sentence(PART, "The text: CLAUSES with one blank between.");
        check.told(bands(), 400, "");
        check.told(bands("x 1"), 400, "a: x 0-0.");
        check.told(bands("x 1", "y 1"), 400, "a: x 0-0. a: y 1-1.");
        check.told(bands("x 1 warn"), 400, "a: x 0-0.");
        check.told(bands("x 1 warn", "y 1 warn"), 400, "a: x 0-0. a: y 1-1.");
        check.told(bands("x 1 warn", "y 1"), 400, "a: x 0-0. a: y 1-1.");
    }

    /** One BAND for each word and grade; "a" is IN the k-th in HOUR k. */
    private static WeatherTeller bands(String... wordsAndGrades) {
        StringBuilder text = new StringBuilder("place a;");
        for (int k = 0; k < wordsAndGrades.length; k++) {
            int blank = wordsAndGrades[k].indexOf(' ');
            text.append("band 0 ").append(wordsAndGrades[k], 0, blank).append(" ").append(k).append(" ").append(k + 1);
            text.append(wordsAndGrades[k].substring(blank)).append(";");
        }
        WeatherTeller teller = Check.withRules(text.toString());
        if (wordsAndGrades.length > 0) {
            teller.put(0, 0, 0, wordsAndGrades.length - 1, 0, 1);
        }
        return teller;
    }
}
