/** Promises 8 and 15: finding and count. */
public final class FindingTest {
    public static void main(String[] args) {
        Check check = new Check();
        spansThatPlacesHaveAlike(check);
        edgesOfSpans(check);
        order(check);
        groups(check);
        groupsOfLikeNeed(check);
        counts(check);
        exceptions(check);
        asManyAsCanBe(check);
        check.end();
    }

    private static void spansThatPlacesHaveAlike(Check check) {
        WeatherTeller teller = Check.withRules(
            "place a;place b;place c;region north=a,b;band 0 calm 0 10 3;band 0 gale 50 100 9 warn;");
        teller.put(0, 0, 2, 4, 5, 0);
        teller.put(0, 1, 2, 4, 0, 3);
        teller.put(0, 2, 2, 5, 9, 0);
        teller.put(0, 2, 6, 6, 50, 0);
        check.same("findings", teller.count(3), 3);
        // "north: calm 2-4." "c: calm 2-5." "c: gale 6-6."
        check.finding(teller, 0, "0 2 4 3 18 0 16 8 0");
        check.finding(teller, 1, "0 2 5 4 12 0 12 4 0");
        check.finding(teller, 2, "1 6 6 4 9 1 12 4 0");
    }

    private static void edgesOfSpans(Check check) {
        WeatherTeller teller = Check.withRules("place a;band 1 x -5 5 1;band 1 y 5 6 1;");
        teller.put(1, 0, 0, 0, -5, 0);
        teller.put(1, 0, 1, 1, -6, 0);
        teller.put(1, 0, 2, 2, 4, 0);
        teller.put(1, 0, 3, 3, 5, 0);
        teller.put(1, 0, 4, 4, 6, 0);
        teller.put(1, 0, 22, 23, 0, 0);
        teller.put(0, 0, 10, 10, 0, 0);
        check.same("findings", teller.count(3), 4);
        check.finding(teller, 0, "0 0 0 1 1 0 9 1 0");
        check.finding(teller, 1, "0 2 2 1 1 0 9 1 0");
        check.finding(teller, 2, "0 22 23 1 2 0 11 1 0");
        check.finding(teller, 3, "1 3 3 1 1 0 9 1 0");
        teller.put(1, 0, 1, 1, 0, 0);
        check.same("joined", teller.count(3), 3);
        check.finding(teller, 0, "0 0 2 1 3 0 9 1 0");
        teller.miss(1, 0, 1, 1);
        check.same("apart again", teller.count(3), 4);
    }

    private static void order(Check check) {
        WeatherTeller teller = Check.withRules(
            "place a;place b;place c;band 2 late 0 9 1;band 0 soon 0 9 1;");
        teller.put(0, 0, 0, 0, 1, 0);
        teller.put(2, 0, 5, 9, 1, 0);
        teller.put(2, 1, 5, 7, 1, 0);
        teller.put(2, 2, 4, 23, 1, 0);
        check.finding(teller, 0, "0 4 23 4 20 0 13 4 0");
        check.finding(teller, 1, "0 5 7 2 3 0 12 2 0");
        check.finding(teller, 2, "0 5 9 1 5 0 12 1 0");
        check.finding(teller, 3, "1 0 0 1 1 0 12 1 0");
        check.same("findings", teller.count(3), 4);
    }

    private static void groups(Check check) {
        String regions = "region all=a,b,c,d,e,f;region west=a,b,c;region east=d,e;region end=f,west;";
        group(check, regions, 0b111111, 0b0001000000, 0);
        group(check, regions, 0b111110, 0b0001000000, 0b000001);
        group(check, regions, 0b111100, 0b0001000000, 0b000011);
        group(check, regions, 0b000111, 0b0010000000, 0);
        group(check, regions, 0b011000, 0b0100000000, 0);
        group(check, regions, 0b100111, 0b1000000000, 0);
        group(check, regions, 0b011111, 0b0001000000, 0b100000);
        group(check, regions, 0b000011, 0b0000000011, 0);
        group(check, regions, 0b001111, 0b0010001000, 0);
        group(check, regions, 0b100000, 0b0000100000, 0);
    }

    private static void groupsOfLikeNeed(Check check) {
        // a, b needs as much as r but c; the set of the PLACES is less.
        group(check, "region r=a,b,c;", 0b000011, 0b000011, 0);
        // r and s have the same PLACES; the first one is less.
        group(check, "region r=a,b,c;region s=c,b,a;", 0b000111, 0b01000000, 0);
        // all but f needs as much as r, s; all is told last, so r and s are less together.
        group(check, "region r=a,b,c;region s=d,e;region all=r,s,f;", 0b011111, 0b011000000, 0);
        group(check, "region all=a,b,c,d,e,f;region r=a,b,c;region s=d,e;", 0b011111, 0b001000000, 0b100000);
        // A PLACE named and a PLACE taken out: d, r but c needs three, as a, b, d does.
        group(check, "region r=a,b,c;", 0b001011, 0b001011, 0);
        // r, s joined less one.
        group(check, "region r=a,b,c;region s=c,d,e;", 0b011011, 0b11000000, 0b000100);
    }

    private static void group(Check check, String regions, int places, int names, int takenOut) {
        WeatherTeller teller = Check.withRules(
            "place a;place b;place c;place d;place e;place f;" + regions + "band 0 x 0 9 1;");
        for (int place = 0; place < 6; place++) {
            if ((places >> place & 1) != 0) {
                teller.put(0, place, 7, 8, 1, 0);
            }
        }
        String call = "group of " + Integer.toBinaryString(places) + " with " + regions;
        check.same(call, teller.finding(0, 3), places);
        check.same(call, teller.finding(0, 7), names);
        check.same(call, teller.finding(0, 8), takenOut);
        check.same(call, teller.finding(0, 4), 2 * Integer.bitCount(places));
        check.same(call, teller.tell(400), teller.finding(0, 6));
    }

    private static void counts(Check check) {
        WeatherTeller teller = Check.withRules(
            "place a;place b;region r=a;band 0 x 0 9 2;band 0 y 9 12 4 warn;band 1 z 0 1 1 warn;");
        teller.put(0, 0, 0, 9, 0, 1);
        teller.put(0, 1, 9, 10, 9, 0);
        int[] due = {2, 1, 3, 3, 2, 0, 0};
        for (int what = 0; what < due.length; what++) {
            check.same("count(" + what + ")", teller.count(what), due[what]);
        }
        teller.tell(400);
        check.same("count(5)", teller.count(5), 3);
        check.same("count(6)", teller.count(6), 2 * 9 + 4 + 8);
        teller.put(0, 0, 0, 23, 999, 0);
        check.same("count(4)", teller.count(4), 1);
        check.same("count(3)", teller.count(3), 1);
        check.same("count(5) stays", teller.count(5), 3);
        check.same("count(6) stays", teller.count(6), 30);
        teller.tell(0);
        check.same("count(5)", teller.count(5), 1);
        check.same("count(6)", teller.count(6), 8);
        check.same("count(7)", teller.count(7), -1);
        check.same("count(-1)", teller.count(-1), -1);
        check.same("count(least)", teller.count(Integer.MIN_VALUE), -1);
    }

    private static void exceptions(Check check) {
        WeatherTeller teller = Check.withRules("place a;band 0 x 0 9 1;");
        check.same("finding(0, 0)", Check.thrown(teller, 0, 0), 1);
        check.same("finding(0, 9)", Check.thrown(teller, 0, 9), 1);
        teller.put(0, 0, 0, 0, 0, 0);
        check.same("finding(0, 0)", Check.thrown(teller, 0, 0), 0);
        check.same("finding(0, 8)", Check.thrown(teller, 0, 8), 0);
        check.same("finding(0, 9)", Check.thrown(teller, 0, 9), 2);
        check.same("finding(0, -1)", Check.thrown(teller, 0, -1), 2);
        check.same("finding(1, 0)", Check.thrown(teller, 1, 0), 1);
        check.same("finding(-1, 0)", Check.thrown(teller, -1, 0), 1);
        check.same("finding(least, 9)", Check.thrown(teller, Integer.MIN_VALUE, 9), 1);
    }

    /** Every PLACE in another BAND in every HOUR, of all QUANTITIES: 432 FINDINGS, all WARNINGS. */
    private static void asManyAsCanBe(Check check) {
        StringBuilder text = new StringBuilder();
        for (int place = 0; place < 6; place++) {
            text.append("place ").append(longWord('p', place)).append(";");
        }
        for (int band = 0; band < 24; band++) {
            text.append("band ").append(band / 8).append(" ").append(longWord('w', band)).append(" ");
            text.append(band % 8).append(" ").append(band % 8 + 1).append(" 9 warn;");
        }
        WeatherTeller teller = Check.withRules(text.toString());
        for (int cell = 0; cell < 432; cell++) {
            int place = cell / 24 % 6;
            int hour = cell % 24;
            teller.put(cell / 144, place, hour, hour, (place + hour) % 8, 0);
        }
        check.same("findings", teller.count(3), 432);
        check.same("warnings", teller.count(4), 432);
        int signs = 432 * (12 + 2 + 12 + 1 + 3 + 1 + 1) + 432 / 24 * 14 * 2 - 1;
        check.same("tell", teller.tell(0), signs);
        check.same("last sign", teller.sign(signs - 1), '.');
        check.same("behind it", teller.sign(signs), -1);
        check.same("weight", teller.count(6), 9 * 432);
        check.same("last told", teller.told(431), 431);
    }

    private static String longWord(char first, int k) {
        return first + "abcdefghij" + (char) ('a' + k);
    }
}
