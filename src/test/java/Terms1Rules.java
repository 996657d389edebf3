/** Part 1 of the terms, sentence by sentence: what the TEXT of RULES may be. */
final class Terms1Rules {
    private static final String PART = "Terms 1";
    private static final String SIX_PLACES = "place a;place b;place c;place d;place e;place f;";
    private static final String FIVE_REGIONS = "region r=a;region s=a;region t=a;region u=a;region v=a;";

    private Terms1Rules() {
    }

    static void hold(Check check) {
        blanks(check);
        words(check);
        numbers(check);
        signs(check);
        texts(check);
        placeAndRegionTokens(check);
        bandTokens(check);
        atMostSixPlaces(check);
        atMostFiveRegions(check);
        regionHasPlacesOfNames(check);
        namesStandAhead(check);
        atMostBands(check);
        quantities(check);
        fromFirstToBelowSecond(check);
        bounds(check);
        grades(check);
        warnings(check);
    }

    private static void blanks(Check check) {
        check.sentence(PART, "RULES, a TEXT. Blanks 10, 32.");
        check.rules("", 0);
        check.rules(" ", 0);
        check.rules("\n", 0);
        check.rules(" \n \n\n  ", 0);
        check.rules("\n place \n a\n;\nregion\nr\n=\na\n,\na\n;\nband\n0\nx\n0\n1\n1\nwarn\n;\n", 1);
        for (int sign = 0; sign < 256; sign++) {
            boolean blank = sign == 10 || sign == 32;
            String text = "place a;" + (char) sign + "place b;";
            if (blank) {
                check.rules(text, 0);
            } else if (sign < 'a' || sign > 'z') {
                check.fault(text, 1, 8);
            }
        }
    }

    private static void words(Check check) {
        check.sentence(PART, "TOKENS: words (small letters in a row, 12 at most)");
        check.rules("place a;place z;", 0);
        check.rules("place abcdefghijkl;place mnopqrstuvwx;place zzzzzzzzzzzz;place aaaaaaaaaaaa;", 0);
        check.fault("place abcdefghijklm;", 1, 6);
        check.fault("place " + "a".repeat(24) + ";", 1, 6);
        check.fault("place " + "a".repeat(900) + ";", 1, 6);
        check.fault("place a;region r=abcdefghijklm;", 1, 17);
        check.fault("band 0 abcdefghijklm 0 1 1;", 1, 7);
        check.fault("band 0 x 0 1 1 warnwarnwarnw;", 1, 15);
        check.fault("abcdefghijklm", 1, 0);
        // Letters that go over a number's end must not make a word of the rest.
        check.fault("aaaaaaaaplace a;", 1, 0);
        check.fault("aaaaaaaaaaaaaaaaplace a;", 1, 0);
        for (char sign : new char[] {'`', '{', 'A', 'Z', 'P', '@', '[', '_', '\'', 0, 127, 128, 225, 255}) {
            check.fault("place " + sign + ";", 1, 6);
            check.fault("place a" + sign + ";", 1, 7);
        }
        check.fault("place a b;", 1, 8);
        check.fault("pla ce a;", 1, 0);
        check.fault("pla\nce a;", 1, 0);
    }

    private static void numbers(Check check) {
        check.sentence(PART, "numbers (digits, perhaps - right ahead)");
        check.rules("band 0 x -5 -3 1;", 1);
        check.rules("band 0 x -5-3 1;", 1);
        check.rules("band 0 x 5 6 1;band 0 y -0 5 9;", 2);
        check.rules("band 0 x 0000000005 0000000000000000000006 1;", 1);
        check.rules("band 00 x -00099 00999 09;", 1);
        check.fault("band 0 x - 5 6 1;", 1, 9);
        check.fault("band 0 x -\n5 6 1;", 1, 9);
        check.fault("band 0 x --5 6 1;", 1, 9);
        check.fault("band 0 x -", 1, 9);
        check.fault("band 0 x -;", 1, 9);
        check.fault("band 0 x 5- 6 1;", 1, 10);
        check.fault("band 0 x +5 6 1;", 1, 9);
        check.fault("band 0 x 5.5 6 1;", 1, 10);
        check.fault("band 0 x /5 6 1;", 1, 9);
        check.fault("band 0 x :5 6 1;", 1, 9);
    }

    private static void signs(Check check) {
        check.sentence(PART, "signs = , ;");
        check.rules("place a;region r=a,a;", 0);
        for (char sign : new char[] {':', '.', '<', '>', '+', '-', '"', '(', '!', 0, 255}) {
            check.fault("place a" + sign, 1, 7);
            check.fault("place a;region r" + sign, 1, 16);
            check.fault("place a;region r=a" + sign, 1, 18);
        }
    }

    private static void texts(Check check) {
        check.sentence(PART, "TEXT: { place W ';' | region W '=' W { ',' W } ';' | band Q W N N G [ warn ] ';' }.");
        check.rules("", 0);
        check.rules("place a;", 0);
        check.rules("band 0 x 0 1 1;place a;region r=a;place b;band 1 y 0 1 1 warn;", 2);
        check.rules("band0x0 9 1;band0y10 12 1warn;place a;region r=a;", 2);
    }

    private static void placeAndRegionTokens(Check check) {
        check.sentence(PART, "place W ';' | region W '=' W { ',' W } ';'");
        String[] good = {"place", "a", ";", "region", "r", "=", "a", ",", "a", ",", "a", ";"};
        cutAnywhere(check, good, 3);
        check.fault(";", 1, 0);
        check.fault("place a;;", 1, 8);
        check.fault("a;", 1, 0);
        check.fault("5;", 1, 0);
        check.fault("warn;", 1, 0);
        check.fault("place =;", 1, 6);
        check.fault("place 5;", 1, 6);
        check.fault("place ;", 1, 6);
        check.fault("place a,b;", 1, 7);
        check.fault("region r;", 1, 8);
        check.fault("region =a;", 1, 7);
        check.fault("region r=;", 1, 9);
        check.fault("region r=,a;", 1, 9);
        check.fault("place a;region r==a;", 1, 17);
        check.fault("place a;region r=a,;", 1, 19);
        check.fault("place a;region r=a,,a;", 1, 19);
        check.fault("place a;region r=a a;", 1, 19);
        check.fault("place a;region r=a=a;", 1, 18);
        check.fault("place a;region r=5;", 1, 17);
    }

    private static void bandTokens(Check check) {
        check.sentence(PART, "band Q W N N G [ warn ] ';'");
        cutAnywhere(check, new String[] {"band", "0", "x", "0", "1", "1", "warn", ";"}, 8);
        cutAnywhere(check, new String[] {"band", "0", "x", "0", "1", "1", ";"}, 7);
        check.fault("band x", 1, 5);
        check.fault("band ;", 1, 5);
        check.fault("band 0 5", 1, 7);
        check.fault("band 0 ,", 1, 7);
        check.fault("band 0 x y", 1, 9);
        check.fault("band 0 x ;", 1, 9);
        check.fault("band 0 x 0 y", 1, 11);
        check.fault("band 0 x 0 ;", 1, 11);
        check.fault("band 0 x 0 1 y", 1, 13);
        check.fault("band 0 x 0 1 ;", 1, 13);
        check.fault("band 0 x 0 1 warn;", 1, 13);
        check.fault("band 0 x 0 1 1 1;", 1, 15);
        check.fault("band 0 x 0 1 1 but;", 1, 15);
        check.fault("band 0 x 0 1 1 war;", 1, 15);
        check.fault("band 0 x 0 1 1 warns;", 1, 15);
        check.fault("band 0 x 0 1 1 warn warn;", 1, 20);
        check.fault("band 0 x 0 1 1,", 1, 14);
    }

    /** All texts of the first tokens: whole ones are fine, of the others the length is the place. */
    private static void cutAnywhere(Check check, String[] tokens, int wholeAt) {
        StringBuilder text = new StringBuilder();
        for (int k = 0; k < tokens.length; k++) {
            text.append(k == 0 ? "" : " ").append(tokens[k]);
            if (k + 1 == wholeAt || k + 1 == tokens.length) {
                check.rules(text.toString(), tokens[0].equals("band") ? 1 : 0);
            } else {
                check.fault(text.toString(), 1, text.length());
                check.fault(text + " \n", 1, text.length() + 2);
            }
        }
    }

    private static void atMostSixPlaces(Check check) {
        check.sentence(PART, "PLACES, at most 6");
        check.rules(SIX_PLACES, 0);
        check.same("places", Check.withRules(SIX_PLACES).count(0), 6);
        check.fault(SIX_PLACES + "place g;", 2, 48);
    }

    private static void atMostFiveRegions(Check check) {
        check.sentence(PART, "and REGIONS, at most 5, are NAMES");
        String text = SIX_PLACES + FIVE_REGIONS;
        check.rules(text, 0);
        check.same("regions", Check.withRules(text).count(1), 5);
        check.fault(text + "region w=a;", 2, text.length());
    }

    private static void regionHasPlacesOfNames(Check check) {
        check.sentence(PART, "a REGION has all PLACES of the NAMES told for it");
        String text = SIX_PLACES + "region q=b,d;region r=q,a;region s=f,f,f;region t=s,r,q,d;region u=a,b,c,d,e,f;";
        int[] due = {0b001010, 0b001011, 0b100000, 0b101011, 0b111111};
        for (int region = 0; region < 5; region++) {
            WeatherTeller teller = Check.withRules(text + "band 0 x 0 9 1;");
            for (int place = 0; place < 6; place++) {
                teller.put(0, place, place, place, 0, 0);
            }
            for (int place = 0; place < 6; place++) {
                String clause = "qrstu".charAt(region) + ": x " + place + "-" + place + ".";
                check.held(teller, clause, due[region] == 1 << place ? 1 : -1);
            }
            for (int place = 0; place < 6; place++) {
                teller.put(0, place, 7, 7, (due[region] >> place & 1) == 1 ? 1 : 9, 0);
            }
            check.held(teller, "qrstu".charAt(region) + ": x 7-7.", 1);
            for (int place = 0; place < 6; place++) {
                teller.miss(0, place, 7, 7);
                boolean has = (due[region] >> place & 1) == 1;
                check.held(teller, "qrstu".charAt(region) + ": x 7-7.", has ? -1 : 1);
                teller.put(0, place, 7, 7, has ? 1 : 9, 0);
            }
        }
    }

    private static void namesStandAhead(Check check) {
        check.sentence(PART, "which the TEXT has ahead of it.");
        check.rules("place a;region r=a;region s=r;", 0);
        check.fault("region r=a;place a;", 4, 9);
        check.fault("place a;region s=r;region r=a;", 4, 17);
        check.fault("place a;region r=a,r;", 4, 19);
        check.fault("place a;region r=r;", 4, 17);
    }

    private static void atMostBands(Check check) {
        check.sentence(PART, "A BAND, at most 24");
        check.rules(bands(24), 24);
        check.fault(bands(25), 2, bands(24).length());
    }

    /** Of all QUANTITIES in turn. */
    private static String bands(int count) {
        StringBuilder text = new StringBuilder();
        for (int band = 0; band < count; band++) {
            text.append("band ").append(band % 3).append(" w").append((char) ('a' + band));
            text.append(" ").append(band).append(" ").append(band + 1).append(" 1;");
        }
        return text.toString();
    }

    private static void quantities(Check check) {
        check.sentence(PART, "of QUANTITY Q (0 .. 2)");
        for (int quantity = 0; quantity <= 2; quantity++) {
            WeatherTeller teller = Check.withRules("place a;band " + quantity + " x 0 1 1;");
            for (int other = 0; other <= 2; other++) {
                teller.put(other, 0, other, other, 0, 0);
            }
            check.finding(teller, 0, "0 " + quantity + " " + quantity + " 1 1 0 9 1 0");
            check.same("findings", teller.count(3), 1);
        }
        check.rules("band -0 x 0 1 1;", 1);
        for (String wrong : new String[] {"3", "-1", "-2", "9", "10", "4294967296", "18446744073709551616", "-4294967295"}) {
            check.fault("band " + wrong + " x 0 1 1;", 2, 5);
        }
    }

    private static void fromFirstToBelowSecond(Check check) {
        check.sentence(PART, "the numbers from the first N to below the second");
        WeatherTeller teller = Check.withRules("place a;band 0 x -5 7 1;");
        for (int v = -8; v <= 10; v++) {
            teller.put(0, 0, 0, 0, v, 0);
            check.same("findings of " + v, teller.count(3), v >= -5 && v < 7 ? 1 : 0);
        }
    }

    private static void bounds(Check check) {
        check.sentence(PART, "(-99 .. 999 each)");
        check.rules("band 0 x -99 999 1;", 1);
        check.rules("band 0 x -99 -98 1;band 0 y 998 999 1;", 2);
        WeatherTeller teller = Check.withRules("place a;band 0 x -99 999 1;");
        teller.put(0, 0, 0, 0, -99, 0);
        check.same("-99 is in", teller.count(3), 1);
        teller.put(0, 0, 0, 0, 998, 0);
        check.same("998 is in", teller.count(3), 1);
        teller.put(0, 0, 0, 0, 999, 0);
        check.same("999 isn't", teller.count(3), 0);
        check.fault("band 0 x -100 5 1;", 2, 9);
        check.fault("band 0 x 1000 5 1;", 2, 9);
        check.fault("band 0 x 5 1000 1;", 2, 11);
        check.fault("band 0 x -99 -100 1;", 2, 13);
        String[] wraps = {"4294967296", "4294967301", "18446744073709551621", "99999", "100000", "1" + "0".repeat(500)};
        for (String wrap : wraps) {
            check.fault("band 0 x " + wrap + " 9 1;", 2, 9);
            check.fault("band 0 x -" + wrap + " 9 1;", 2, 9);
            check.fault("band 0 x 0 " + wrap + " 1;", 2, 11);
        }
    }

    private static void grades(Check check) {
        check.sentence(PART, "its WORD W, its GRADE G (1 .. 9)");
        for (int grade = 1; grade <= 9; grade++) {
            WeatherTeller teller = Check.withRules("place a;band 0 x 0 1 " + grade + ";");
            teller.put(0, 0, 0, 0, 0, 0);
            check.same("weight", teller.finding(0, 4), grade);
        }
        for (String wrong : new String[] {"0", "-0", "10", "-1", "-9", "11", "4294967297", "18446744073709551617"}) {
            check.fault("band 0 x 0 1 " + wrong + ";", 2, 13);
            check.fault("band 0 x 0 1 " + wrong + " warn;", 2, 13);
        }
    }

    private static void warnings(Check check) {
        check.sentence(PART, "whether it is a WARNING.");
        WeatherTeller teller = Check.withRules("place a;band 0 x 0 1 1;band 0 y 1 2 1 warn;band 0 z 2 3 1;");
        teller.put(0, 0, 0, 2, 0, 1);
        check.same("x", teller.finding(0, 5), 0);
        check.same("y", teller.finding(1, 5), 1);
        check.same("z", teller.finding(2, 5), 0);
    }
}
