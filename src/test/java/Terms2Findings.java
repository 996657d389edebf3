/** Part 2 of the terms, sentence by sentence. */
final class Terms2Findings {
    private static final String PART = "Terms 2";

    private Terms2Findings() {
    }

    static void hold(Check check) {
        table(check);
        inOneBandOrNone(check);
        placesTogether(check);
        notInTheHourAhead(check);
        notInTheHourBehind(check);
        notOfTheDay(check);
        order(check);
        weight(check);
        justTheseAreLeft(check);
        asFewAsCanBe(check);
        firstOfSeveral(check);
        numbersOfNames(check);
        clause(check);
        clauseBut(check);
        clauseHours(check);
    }

    private static void table(Check check) {
        check.sentence(PART,
            "TABLE: of each QUANTITY, PLACE and HOUR 0 .. 23 a number -99 .. 999, or it is MISSING (all at first).");
        Days.same(check, "rules", Days.teller(6), Days.emptyNumbers());
        Days.same(check, "puts", Days.full(), Days.fullNumbers());
        WeatherTeller teller = Days.teller(6);
        for (int hour = -1; hour <= 24; hour++) {
            boolean isThere = hour >= 0 && hour <= 23;
            check.same("put at " + hour, teller.put(0, 0, hour, hour, -99, 0) ? 1 : 0, isThere ? 1 : 0);
            check.same("number at " + hour, teller.number(0, 0, hour), isThere ? -99 : -100);
        }
        for (int v : new int[] {-100, -99, 999, 1000}) {
            teller.miss(0, 0, 0, 0);
            boolean isNumber = v >= -99 && v <= 999;
            check.same("put of " + v, teller.put(0, 0, 0, 0, v, 0) ? 1 : 0, isNumber ? 1 : 0);
            check.same("number " + v, teller.number(0, 0, 0), isNumber ? v : -100);
        }
    }

    private static void inOneBandOrNone(Check check) {
        check.sentence(PART, "A number is IN the BAND of its QUANTITY that has it, or in none.");
        WeatherTeller teller = Check.withRules("place a;band 0 x 0 5 1;band 0 y 5 9 1;band 1 z 0 9 1;band 0 w 10 11 1;");
        int[][] dues = {{-99, -1}, {-1, -1}, {0, 0}, {4, 0}, {5, 1}, {8, 1}, {9, -1}, {10, 3}, {11, -1}, {999, -1}};
        for (int[] due : dues) {
            teller.put(0, 0, 7, 7, due[0], 0);
            check.same("findings of " + due[0], teller.count(3), due[1] == -1 ? 0 : 1);
            if (due[1] != -1) {
                check.same("band of " + due[0], teller.finding(0, 0), due[1]);
            }
        }
        teller.miss(0, 0, 7, 7);
        check.same("findings of what is MISSING", teller.count(3), 0);
    }

    private static void placesTogether(Check check) {
        check.sentence(PART,
            "FINDINGS: of a BAND and HOURS from .. to: all PLACES together that are IN it in each of these HOURS");
        for (int places = 1; places < 64; places++) {
            WeatherTeller teller = sixPlaces();
            for (int place = 0; place < 6; place++) {
                if ((places >> place & 1) == 1) {
                    teller.put(0, place, 4, 6, place, 1);
                }
            }
            check.same("findings", teller.count(3), 1);
            check.same("places", teller.finding(0, 3), places);
        }
        WeatherTeller teller = sixPlaces();
        teller.put(0, 0, 4, 6, 0, 0);
        teller.put(0, 1, 4, 5, 0, 0);
        teller.put(0, 2, 5, 6, 0, 0);
        teller.put(0, 3, 4, 4, 0, 0);
        teller.put(0, 3, 6, 6, 0, 0);
        teller.put(1, 4, 4, 6, 0, 0);
        String[] dues = {"0 4 4 8", "0 4 5 2", "0 4 6 1", "0 5 6 4", "0 6 6 8", "1 4 6 16"};
        finds(check, teller, dues);
    }

    private static void notInTheHourAhead(Check check) {
        check.sentence(PART, "not in the one ahead");
        neighbours(check, 4, 5, 3);
    }

    private static void notInTheHourBehind(Check check) {
        check.sentence(PART, "not in the one behind");
        neighbours(check, 3, 5, 6);
    }

    /** MISSING, in another BAND and in none part two HOURS; in the same BAND joins them. */
    private static void neighbours(Check check, int from, int to, int neighbour) {
        check.sentence(PART, "(one that is MISSING, in another BAND, none, or not of the day)");
        String due = "0 " + from + " " + to + " 1";
        WeatherTeller teller = sixPlaces();
        teller.put(0, 0, from, to, 3, 0);
        finds(check, teller, due);
        teller.put(0, 0, neighbour, neighbour, 999, 0);
        finds(check, teller, due);
        teller.put(0, 0, neighbour, neighbour, 9, 0);
        finds(check, teller, due, "2 " + neighbour + " " + neighbour + " 1");
        teller.put(0, 0, neighbour, neighbour, 8, 0);
        finds(check, teller, "0 " + Math.min(from, neighbour) + " " + Math.max(to, neighbour) + " 1");
        teller.miss(0, 0, neighbour, neighbour);
        finds(check, teller, due);
    }

    private static void notOfTheDay(Check check) {
        check.sentence(PART, "(one that is MISSING, in another BAND, none, or not of the day)");
        WeatherTeller teller = sixPlaces();
        teller.put(0, 1, 0, 0, 0, 0);
        teller.put(0, 0, 23, 23, 0, 0);
        teller.put(0, 1, 23, 23, 0, 0);
        teller.put(0, 2, 0, 23, 0, 0);
        finds(check, teller, "0 0 0 2", "0 0 23 4", "0 23 23 3");
        teller = sixPlaces();
        // The day of before is not this day.
        teller.put(0, 0, 20, 23, 0, 0);
        teller.next();
        teller.put(0, 0, 0, 3, 0, 0);
        finds(check, teller, "0 0 3 1");
    }

    private static void order(Check check) {
        check.sentence(PART, "In order: by BANDS as told, from, to.");
        WeatherTeller teller = Check.withRules("place a;place b;place c;band 2 z 0 9 1;band 0 y 5 9 1;band 0 a 0 5 1;");
        teller.put(0, 0, 9, 9, 0, 0);
        teller.put(0, 0, 0, 1, 5, 0);
        teller.put(0, 0, 11, 12, 5, 0);
        teller.put(2, 2, 20, 21, 0, 0);
        teller.put(2, 1, 20, 23, 0, 0);
        teller.put(2, 0, 20, 20, 0, 0);
        teller.put(2, 0, 0, 0, 0, 0);
        finds(check, teller, "0 0 0 1", "0 20 20 1", "0 20 21 4", "0 20 23 2", "1 0 1 1", "1 11 12 1", "2 9 9 1");
    }

    private static void weight(Check check) {
        check.sentence(PART, "WEIGHT: GRADE times PLACES times HOURS.");
        for (int places = 1; places <= 6; places++) {
            for (int hours = 1; hours <= 24; hours++) {
                WeatherTeller teller = sixPlaces();
                for (int place = 0; place < places; place++) {
                    teller.put(0, place, 24 - hours, 23, 0, 0);
                    teller.put(1, place, 0, hours - 1, 0, 0);
                }
                check.same("weight", teller.finding(0, 4), places * hours);
                check.same("weight", teller.finding(1, 4), 9 * places * hours);
            }
        }
    }

    private static void justTheseAreLeft(Check check) {
        check.sentence(PART, "GROUP of PLACES: NAMES, joined, less PLACES taken out: such that just these are left.");
        int[] regions = {0b000111, 0b011100, 0b110001, 0b111111, 0b101010};
        for (int places = 1; places < 64; places++) {
            WeatherTeller teller = grouped("region r=a,b,c;region s=c,d,e;region t=a,e,f;region u=r,s,t;region v=b,d,f;", places);
            int names = teller.finding(0, 7);
            int out = teller.finding(0, 8);
            int joined = names & 63;
            for (int region = 0; region < 5; region++) {
                joined |= (names >> 6 + region & 1) == 1 ? regions[region] : 0;
            }
            check.same("left of " + names + " less " + out, joined & ~out, places);
            check.same("taken out of what is joined alone", out & ~joined, 0);
        }
    }

    private static void asFewAsCanBe(Check check) {
        check.sentence(PART, "As few as can be (NAMES and those taken out counted together)");
        String all = "region r=a,b,c,d,e,f;";
        group(check, all, 0b111111, 1 << 6, 0);
        group(check, all, 0b011111, 1 << 6, 0b100000);
        group(check, all, 0b111010, 1 << 6, 0b000101);
        // Three names need as many as one name and two taken out; two names are fewer than one and three.
        group(check, all, 0b000111, 0b000111, 0);
        group(check, all, 0b000011, 0b000011, 0);
        group(check, all, 0b000001, 0b000001, 0);
        String two = "region r=a,b,c;region s=d,e,f;";
        group(check, two, 0b111111, 3 << 6, 0);
        group(check, two, 0b001111, 1 << 6 | 8, 0);
        // Without a REGION there are the PLACES alone.
        group(check, "", 0b111111, 0b111111, 0);
        // Regions that have PLACES in common.
        group(check, "region r=a,b,c,d;region s=c,d,e,f;", 0b111111, 3 << 6, 0);
        group(check, "region r=a,b,c,d;region s=c,d,e,f;", 0b110111, 3 << 6, 0b001000);
    }

    private static void firstOfSeveral(Check check) {
        check.sentence(PART, "of several the first by the NAMES' numbers");
        // "a, b" and "r but c" need two each: 3 is less than 64.
        group(check, "region r=a,b,c;", 0b000011, 0b000011, 0);
        // "a, c, d, f" and "r, s but b, e" need four each, "e, f, r" and "r, s but d" three.
        group(check, "region r=a,b,c;region s=d,e,f;", 0b101101, 0b101101, 0);
        group(check, "region r=a,b,c;region s=d,e,f;", 0b110111, 1 << 6 | 0b110000, 0);
        // "f" and a REGION of it alone.
        group(check, "region r=f;", 0b100000, 0b100000, 0);
        // Two REGIONS with the same PLACES.
        group(check, "region r=a,b,c;region s=c,a,b;", 0b000111, 1 << 6, 0);
        group(check, "region r=a,b,c;region s=c,a,b;region t=r,s,d,e;", 0b000111, 1 << 6, 0);
        // "r, s" and "t but f": 3 times 64 is less than 4 times 64.
        group(check, "region r=a,b,c;region s=d,e;region t=r,s,f;", 0b011111, 3 << 6, 0);
        // "r but f" and "s, t": 64 is less than 6 times 64.
        group(check, "region r=a,b,c,d,e,f;region s=a,b,c;region t=d,e;", 0b011111, 1 << 6, 0b100000);
        // "f, r" and "s but e": 32 and 64 are less than 128.
        group(check, "region r=a,b,c;region s=a,b,c,e,f;", 0b100111, 1 << 6 | 32, 0);
    }

    private static void numbersOfNames(Check check) {
        check.sentence(PART, "(PLACES as told, then REGIONS; the sets of NAMES as numbers, bit k for the k-th: the least one).");
        // REGIONS have the bits behind all PLACES, also behind those that are told later.
        WeatherTeller teller = Check.withRules("place b;region r=b;place a;region s=a,b;place c;region t=c,s;band 0 x 0 9 1;");
        for (int place = 0; place < 3; place++) {
            teller.put(0, place, place, place, 0, 0);
            teller.put(0, place, 10, 10, 0, 0);
        }
        teller.put(0, 0, 15, 15, 0, 0);
        teller.put(0, 1, 15, 15, 0, 0);
        int[][] dues = {{1, 1}, {2, 2}, {4, 4}, {7, 1 << 5}, {3, 1 << 4}};
        for (int k = 0; k < dues.length; k++) {
            check.same("places of " + k, teller.finding(k, 3), dues[k][0]);
            check.same("names of " + k, teller.finding(k, 7), dues[k][1]);
        }
        check.told(teller, 400, "t: x 10-10. s: x 15-15. b: x 0-0. a: x 1-1. c: x 2-2.");
        // Only the bits count, not the letters.
        group(check, "region z=a,b,c;region y=a,b,c;", 0b000111, 1 << 6, 0);
        for (int places = 1; places <= 6; places++) {
            StringBuilder text = new StringBuilder("band 0 x 0 9 1;");
            StringBuilder all = new StringBuilder();
            for (int place = 0; place < places; place++) {
                text.append("place ").append((char) ('a' + place)).append(";");
                all.append(place == 0 ? "" : ",").append((char) ('a' + place));
            }
            teller = Check.withRules(text + "region r=" + all + ";");
            for (int place = 0; place < places; place++) {
                teller.put(0, place, 0, 0, 0, 0);
            }
            check.same("names of all " + places, teller.finding(0, 7), places == 1 ? 1 : 1 << places);
        }
    }

    private static void clause(Check check) {
        check.sentence(PART, "CLAUSE: the NAMES in order with \", \" between");
        clauseOf(check, "", 0b000001, "a: x 7-8.");
        clauseOf(check, "", 0b100001, "a, f: x 7-8.");
        clauseOf(check, "", 0b111111, "a, b, c, d, e, f: x 7-8.");
        clauseOf(check, "region r=a,b,c;", 0b001111, "d, r: x 7-8.");
        clauseOf(check, "region s=d,e,f;region r=a,b,c;", 0b111111, "s, r: x 7-8.");
    }

    private static void clauseBut(Check check) {
        check.sentence(PART, "\" but \" and those taken out likewise, if there are some");
        clauseOf(check, "region r=a,b,c,d,e,f;", 0b111111, "r: x 7-8.");
        clauseOf(check, "region r=a,b,c,d,e,f;", 0b111101, "r but b: x 7-8.");
        clauseOf(check, "region r=a,b,c,d,e,f;", 0b011110, "r but a, f: x 7-8.");
        clauseOf(check, "region r=a,b,c,d;region s=d,e,f;", 0b110111, "r, s but d: x 7-8.");
    }

    private static void clauseHours(Check check) {
        check.sentence(PART, "\": \", WORD, \" \", from, \"-\", to, \".\".");
        int[][] hours = {{0, 0}, {0, 9}, {9, 9}, {9, 10}, {10, 10}, {0, 23}, {19, 20}, {23, 23}};
        for (int[] fromTo : hours) {
            WeatherTeller teller = Check.withRules("place a;band 0 abcdefghijkl 0 9 1;");
            teller.put(0, 0, fromTo[0], fromTo[1], 0, 0);
            check.told(teller, 400, "a: abcdefghijkl " + fromTo[0] + "-" + fromTo[1] + ".");
            check.same("its signs", teller.finding(0, 6), teller.tell(400));
        }
    }

    /** Of each FINDING its band, from, to and places; there are no others. */
    private static void finds(Check check, WeatherTeller teller, String... dues) {
        check.same("findings", teller.count(3), dues.length);
        for (int k = 0; k < dues.length && k < teller.count(3); k++) {
            String hours = teller.finding(k, 1) + " " + teller.finding(k, 2);
            check.same("finding " + k, teller.finding(k, 0) + " " + hours + " " + teller.finding(k, 3), dues[k]);
        }
    }

    private static void group(Check check, String regions, int places, int names, int out) {
        WeatherTeller teller = grouped(regions, places);
        String call = "group of " + Integer.toBinaryString(places) + " by " + regions;
        check.same("places, " + call, teller.finding(0, 3), places);
        check.same("names, " + call, teller.finding(0, 7), names);
        check.same("taken out, " + call, teller.finding(0, 8), out);
    }

    private static void clauseOf(Check check, String regions, int places, String due) {
        WeatherTeller teller = grouped(regions, places);
        check.told(teller, 400, due);
        check.same("signs of '" + due + "'", teller.finding(0, 6), due.length());
    }

    /** These PLACES are IN "x" from 7 to 8. */
    private static WeatherTeller grouped(String regions, int places) {
        WeatherTeller teller = Check.withRules("place a;place b;place c;place d;place e;place f;" + regions + "band 0 x 0 9 1;");
        for (int place = 0; place < 6; place++) {
            if ((places >> place & 1) == 1) {
                teller.put(0, place, 7, 8, 0, 0);
            }
        }
        return teller;
    }

    private static WeatherTeller sixPlaces() {
        return Check.withRules("place a;place b;place c;place d;place e;place f;"
            + "band 0 x 0 9 1;band 1 y 0 9 9;band 0 z 9 12 1;");
    }
}
