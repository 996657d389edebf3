/** Part 1 of the terms, sentence by sentence: the FAULTS. */
final class Terms1Faults {
    private static final String PART = "Terms 1";
    private static final String SIX_PLACES = "place a;place b;place c;place d;place e;place f;";
    private static final String FIVE_REGIONS = "region r=a;region s=a;region t=a;region u=a;region v=a;";
    private static final String[] KEPT = {"place", "region", "band", "warn", "but"};

    private Terms1Faults() {
    }

    static void hold(Check check) {
        firstAlongTheText(check);
        leastOfOnePlace(check);
        tokens(check);
        moreMustCome(check);
        keptWords(check);
        tooMany(check);
        outOfSpan(check);
        namesToldAlready(check);
        wordsToldAlready(check);
        namesThatAreNotThere(check);
        secondNotAboveFirst(check);
        numbersInCommon(check);
        aheadOfGrade(check);
    }

    private static void firstAlongTheText(Check check) {
        check.sentence(PART, "FAULTS, the first along the text");
        String[] faults = {"place !;", "place a;", "region s=q;", "band 3 w 0 1 1;", "band 0 w 2 1 1;", "band 0 x 5 6 1;"};
        int[] kinds = {1, 3, 4, 2, 5, 3};
        int[] places = {6, 6, 9, 5, 9, 7};
        String good = "place a;band 0 x 0 1 1;";
        for (int one = 0; one < faults.length; one++) {
            for (String other : faults) {
                check.fault(good + faults[one] + other, kinds[one], good.length() + places[one]);
            }
            check.fault(good + faults[one] + "!", kinds[one], good.length() + places[one]);
        }
        check.fault(SIX_PLACES + "place a !", 2, 48);
        check.fault("band 3 place", 2, 5);
        check.fault("band 0 x 1000 1000 0", 2, 9);
        check.fault("band 0 x 0 1000 0", 2, 11);
    }

    private static void leastOfOnePlace(Check check) {
        check.sentence(PART, "(of one place the least), with its place");
        // 1 and 4 at the word: it can't stand there, and it isn't a name.
        check.fault("region r=band;", 1, 9);
        check.fault("region r=abcdefghijklm;", 1, 9);
        // 2 and 5 at the first number.
        check.fault("band 0 x 1000 5 1;", 2, 9);
        check.fault("band 0 x 1000 1000 1;", 2, 9);
        check.fault("band 0 x -100 -100 1;", 2, 9);
        check.fault("band 0 x 0 999 1;band 0 y -100 1 1;", 2, 26);
    }

    private static void tokens(Check check) {
        check.sentence(PART, "1 a TOKEN that is none or can't stand there");
        check.fault("!", 1, 0);
        check.fault("place a;!", 1, 8);
        check.fault("place a; \n!", 1, 10);
        check.fault("place a;region r=a,!", 1, 19);
        check.fault("band 0 x 0 1 1!", 1, 14);
        check.fault("place a;place;", 1, 13);
        check.fault("place\0a;", 1, 5);
        check.fault("Place a;", 1, 0);
        check.fault("places a;", 1, 0);
    }

    private static void moreMustCome(Check check) {
        check.sentence(PART, "(the length, if more must come)");
        check.fault("place", 1, 5);
        check.fault("place a", 1, 7);
        check.fault("place a  ", 1, 9);
        check.fault("place a\n", 1, 8);
        check.fault("band 0 x 0 1 1 warn", 1, 19);
        check.fault("place a;region r=a,", 1, 19);
        WeatherTeller teller = new WeatherTeller();
        Check.feedText(teller, "place a;");
        check.same("rules(7)", teller.rules(7), -1);
        check.same("the length is the one of the text, not the tape", teller.fault(1), 7);
    }

    private static void keptWords(Check check) {
        check.sentence(PART, "place, region, band, warn, but are no W.");
        for (String word : KEPT) {
            check.fault("place " + word + ";", 1, 6);
            check.fault("region " + word + "=a;", 1, 7);
            check.fault("place a;region r=" + word + ";", 1, 17);
            check.fault("place a;region r=a," + word + ";", 1, 19);
            check.fault("band 0 " + word + " 0 1 1;", 1, 7);
            check.rules("place " + word + "s;place x" + word + ";", 0);
            check.rules("place " + word.substring(1) + ";place " + word.substring(0, word.length() - 1) + ";", 0);
            check.rules("band 0 " + word + "s 0 1 1;", 1);
        }
    }

    private static void tooMany(Check check) {
        check.sentence(PART, "2 too much: a seventh place, a sixth region, a 25th band (at that word)");
        check.fault(SIX_PLACES + "place", 2, 48);
        check.fault(SIX_PLACES + " \n place g;", 2, 51);
        check.fault(SIX_PLACES + "place a;", 2, 48);
        check.fault(SIX_PLACES + "place band;", 2, 48);
        check.rules(SIX_PLACES + FIVE_REGIONS, 0);
        String five = "place a;" + FIVE_REGIONS;
        check.fault(five + "region", 2, five.length());
        check.fault(five + "region r=", 2, five.length());
        check.fault(five + " region w=a;", 2, five.length() + 1);
        StringBuilder bands = new StringBuilder();
        for (int band = 0; band < 24; band++) {
            bands.append("band 0 w").append((char) ('a' + band));
            bands.append(" ").append(band).append(" ").append(band + 1).append(" 1;");
        }
        check.rules(bands.toString(), 24);
        check.rules(bands + "place a;", 24);
        check.fault(bands + "band", 2, bands.length());
        check.fault(bands + "band 3", 2, bands.length());
        check.fault(bands + "band 1 x 0 1 1;", 2, bands.length());
    }

    private static void outOfSpan(Check check) {
        check.sentence(PART, "a number out of its span (at it)");
        check.fault("band  3", 2, 6);
        check.fault("band -1", 2, 5);
        check.fault("band 0 x  -100", 2, 10);
        check.fault("band 0 x 1000", 2, 9);
        check.fault("band 0 x 0  1000", 2, 12);
        check.fault("band 0 x -99 -100", 2, 13);
        check.fault("band 0 x 0 1\n0", 2, 13);
        check.fault("band 0 x 0 1 10", 2, 13);
    }

    private static void namesToldAlready(Check check) {
        check.sentence(PART, "3 a NAME told already");
        check.fault("place a;place a", 3, 14);
        check.fault("place a;place b;place c;place  b;", 3, 31);
        check.fault("place a;region a=a;", 3, 15);
        check.fault("place a;region r=a;place r;", 3, 25);
        check.fault("place a;region r=a;region r=a;", 3, 26);
        check.fault("place abcdefghijkl;place abcdefghijkl;", 3, 25);
        check.rules("place abcdefghijkl;place abcdefghijkm;place abcdefghijk;place bbcdefghijkl;", 0);
        // A NAME may stand more than once in what a REGION is told to have.
        check.rules("place a;region r=a,a;region s=r,r,a;", 0);
    }

    private static void wordsToldAlready(Check check) {
        check.sentence(PART, "a WORD that a BAND has already (at it).");
        check.fault("band 0 x 0 1 1;band 0 x", 3, 22);
        check.fault("band 0 x 0 1 1;band 1  x 0 1 1;", 3, 23);
        check.fault("band 0 x 0 1 1;band 0 y 1 2 1;band 2 x 0 1 1;", 3, 37);
        check.rules("place x;region y=x;band 0 x 0 1 1;band 0 y 1 2 1;", 2);
        check.rules("band 0 x 0 1 1;band 0 y 1 2 1;place x;region y=x;", 2);
    }

    private static void namesThatAreNotThere(Check check) {
        check.sentence(PART, "4 a NAME that isn't there (at it).");
        check.fault("region r=a", 4, 9);
        check.fault("region r= a;place a;", 4, 10);
        check.fault("place a;region r=a,b;place b;", 4, 19);
        check.fault("place a;band 0 x 0 1 1;region r=x;", 4, 32);
        check.fault("place a;region r=aa;", 4, 17);
        WeatherTeller teller = Check.withRules("place q;region p=q;");
        Check.rules(teller, "place a;region r=q;");
        check.same("names of the rules of before aren't there", teller.fault(0), 4);
        Check.rules(teller, "place q;");
        check.same("nor are they told already", teller.fault(0), 0);
    }

    private static void secondNotAboveFirst(Check check) {
        check.sentence(PART, "5 a band whose second N isn't above its first");
        check.rules("band 0 x 5 6 1;", 1);
        check.rules("band 0 x -6 -5 1;", 1);
        check.fault("band 0 x 5 5 1;", 5, 9);
        check.fault("band 0 x 5 4 1;", 5, 9);
        check.fault("band 0 x -5 -6 1;", 5, 9);
        check.fault("band 0 x -99 -99 1;", 5, 9);
        check.fault("band 0 x 999 999 1;", 5, 9);
        check.fault("band 0 x 0 -0 1;", 5, 9);
        check.fault("band 0 x 999 -99 1;", 5, 9);
    }

    private static void numbersInCommon(Check check) {
        check.sentence(PART, "or that has a number in common with one of its QUANTITY");
        String band = "place a;band 1 x 10 20 1;";
        int[][] apart = {{9, 10}, {-99, 10}, {20, 21}, {20, 999}};
        int[][] common = {{9, 11}, {10, 11}, {10, 20}, {19, 20}, {19, 21}, {9, 21}, {-99, 999}, {12, 13}};
        for (int[] it : apart) {
            check.rules(band + "band 1 y " + it[0] + " " + it[1] + " 1;", 2);
        }
        for (int[] it : common) {
            check.fault(band + "band 1 y " + it[0] + " " + it[1] + " 1;", 5, band.length() + 9);
            check.fault(band + "band 1 w 0 1 1;band 1 y " + it[0] + " " + it[1] + " 1;", 5, band.length() + 24);
            check.rules(band + "band 0 y " + it[0] + " " + it[1] + " 1;band 2 z " + it[0] + " " + it[1] + " 1;", 3);
        }
    }

    private static void aheadOfGrade(Check check) {
        check.sentence(PART, "(at the first N; ahead of G).");
        for (String grade : new String[] {"", " 0", " 10", " x", " ;", " 1", " 1 x", " !"}) {
            check.fault("band 0 x  5  5" + grade, 5, 10);
            check.fault("band 0 x 0 9 1;band 0 y 8 10" + grade, 5, 24);
        }
    }
}
