/** Promise 8, sentence by sentence. What FINDINGS and GROUPS are is held by Terms2. */
final class Promise08Finding {
    private static final String PART = "Promise 8";
    private static final int LEAST = Integer.MIN_VALUE;
    private static final int MOST = Integer.MAX_VALUE;

    private Promise08Finding() {
    }

    static void hold(Check check) {
        bandFromToPlaces(check);
        weight(check);
        warning(check);
        signs(check);
        names(check);
        noSuchFinding(check);
        noSuchWhat(check);
        neitherFindingNorWhat(check);
    }

    /** All of 0 to 3 at their edges: the first and the last BAND, the first and the last HOUR, one PLACE and all. */
    private static void bandFromToPlaces(Check check) {
        check.sentence(PART, "FINDING k, what 0: its BAND (as told, from 0 on), 1: from, 2: to, 3: PLACES (bits)");
        WeatherTeller teller = sixPlaces();
        teller.put(0, 0, 0, 0, 0, 0);
        for (int place = 0; place < 6; place++) {
            teller.put(2, place, 0, 23, 0, 0);
        }
        teller.put(1, 5, 23, 23, 22, 0);
        int[][] due = {{0, 0, 0, 1}, {22, 23, 23, 32}, {23, 0, 23, 63}};
        check.same("findings", teller.count(3), due.length);
        for (int k = 0; k < due.length; k++) {
            for (int what = 0; what <= 3; what++) {
                check.same("finding(" + k + ", " + what + ")", teller.finding(k, what), due[k][what]);
            }
        }
    }

    private static void weight(Check check) {
        check.sentence(PART, "4: WEIGHT");
        WeatherTeller teller = sixPlaces();
        teller.put(0, 3, 5, 5, 0, 0);
        check.same("the least weight", teller.finding(0, 4), 1);
        for (int place = 0; place < 6; place++) {
            teller.put(2, place, 0, 23, 0, 0);
        }
        check.same("the greatest weight", teller.finding(1, 4), 9 * 6 * 24);
    }

    private static void warning(Check check) {
        check.sentence(PART, "5: whether a WARNING");
        WeatherTeller teller = sixPlaces();
        teller.put(0, 3, 5, 5, 0, 0);
        teller.put(2, 3, 5, 5, 0, 0);
        check.same("no warning", teller.finding(0, 5), 0);
        check.same("a warning", teller.finding(1, 5), 1);
    }

    private static void signs(Check check) {
        check.sentence(PART, "6: the signs of its CLAUSE");
        WeatherTeller teller = Check.withRules("place a;band 0 x 0 1 1;");
        teller.put(0, 0, 0, 9, 0, 0);
        check.same("a: x 0-9.", teller.finding(0, 6), 9);
        teller.put(0, 0, 10, 10, 0, 0);
        check.same("a: x 0-10.", teller.finding(0, 6), 10);
        teller.miss(0, 0, 0, 9);
        check.same("a: x 10-10.", teller.finding(0, 6), 11);
        longestClause(check);
    }

    /** Six PLACES of twelve letters that no REGION joins. */
    private static void longestClause(Check check) {
        StringBuilder text = new StringBuilder("band 1 wwwwwwwwwwww -99 999 1;");
        for (int place = 0; place < 6; place++) {
            text.append("place ").append("ppppppppppp").append((char) ('a' + place)).append(";");
        }
        WeatherTeller teller = Check.withRules(text.toString());
        for (int place = 0; place < 6; place++) {
            teller.put(1, place, 10, 23, 0, 0);
        }
        check.same("the longest clause", teller.finding(0, 6), 6 * 12 + 5 * 2 + 2 + 12 + 1 + 5 + 1);
        check.same("its text", teller.tell(400), 103);
    }

    private static void names(Check check) {
        check.sentence(PART, "7: the NAMES of its GROUP (bits), 8: PLACES taken out (bits)");
        WeatherTeller teller = sixPlaces();
        for (int place = 0; place < 6; place++) {
            teller.put(0, place, 3, 3, 0, 0);
        }
        check.same("names of all", teller.finding(0, 7), 1 << 10);
        check.same("taken out of all", teller.finding(0, 8), 0);
        teller.miss(0, 5, 3, 3);
        check.same("names of all but the last", teller.finding(0, 7), 1 << 10);
        check.same("taken out: the last", teller.finding(0, 8), 32);
        teller.put(0, 5, 3, 3, 0, 0);
        teller.miss(0, 0, 3, 3);
        check.same("taken out: the first", teller.finding(0, 8), 1);
        for (int place = 1; place < 5; place++) {
            teller.miss(0, place, 3, 3);
        }
        check.same("names of the last", teller.finding(0, 7), 32);
        check.same("taken out of the last", teller.finding(0, 8), 0);
    }

    private static void noSuchFinding(Check check) {
        check.sentence(PART, "IndexOutOfBoundsException: no such FINDING.");
        WeatherTeller teller = new WeatherTeller();
        throwsFor(check, teller, new int[] {0, 1, -1, LEAST, MOST}, new int[] {0, 8}, 1);
        teller = sixPlaces();
        throwsFor(check, teller, new int[] {0, 1, -1, LEAST, MOST}, new int[] {0, 8}, 1);
        teller.put(0, 0, 0, 0, 0, 0);
        throwsFor(check, teller, new int[] {1, 2, 431, 432, 433, -1, LEAST, MOST}, new int[] {0, 1, 2, 3, 4, 5, 6, 7, 8}, 1);
        throwsFor(check, teller, new int[] {0}, new int[] {0, 1, 2, 3, 4, 5, 6, 7, 8}, 0);
        teller.next();
        throwsFor(check, teller, new int[] {0}, new int[] {0, 8}, 1);
    }

    private static void noSuchWhat(Check check) {
        check.sentence(PART, "NoSuchElementException: no such what.");
        WeatherTeller teller = sixPlaces();
        teller.put(0, 0, 0, 0, 0, 0);
        teller.put(0, 0, 2, 2, 0, 0);
        throwsFor(check, teller, new int[] {0, 1}, new int[] {-1, 9, 10, LEAST, MOST}, 2);
    }

    private static void neitherFindingNorWhat(Check check) {
        // The document names the FINDING first.
        check.sentence(PART, "IndexOutOfBoundsException: no such FINDING. NoSuchElementException: no such what.");
        WeatherTeller teller = sixPlaces();
        throwsFor(check, teller, new int[] {0, -1, MOST}, new int[] {-1, 9, LEAST, MOST}, 1);
        teller.put(0, 0, 0, 0, 0, 0);
        throwsFor(check, teller, new int[] {1, -1, MOST}, new int[] {-1, 9, LEAST, MOST}, 1);
    }

    private static void throwsFor(Check check, WeatherTeller teller, int[] ks, int[] whats, int due) {
        for (int k : ks) {
            for (int what : whats) {
                check.same("finding(" + k + ", " + what + ") throws", Check.thrown(teller, k, what), due);
            }
        }
    }

    /** Six PLACES, five REGIONS, 24 BANDS: 23 of one number, and a WARNING of QUANTITY 2 with the highest GRADE. */
    private static WeatherTeller sixPlaces() {
        StringBuilder text = new StringBuilder("place a;place b;place c;place d;place e;place f;");
        text.append("region r=a;region s=a;region t=a;region u=a;region all=a,b,c,d,e,f;");
        for (int band = 0; band < 23; band++) {
            text.append("band ").append(band / 12).append(" w").append((char) ('a' + band));
            text.append(" ").append(band).append(" ").append(band + 1).append(" 1;");
        }
        return Check.withRules(text + "band 2 z -99 999 9 warn;");
    }
}
