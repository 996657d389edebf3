/** Part 3 of the terms, sentence by sentence: which texts are HELD, and when a CLAUSE is TRUE. */
final class Terms3Held {
    private static final String PART = "Terms 3";

    private Terms3Held() {
    }

    static void hold(Check check) {
        texts(check);
        tokens(check);
        cutTexts(check);
        takenOutArePlaces(check);
        digits(check);
        blanks(check);
        blanksThatAreNone(check);
        noBlanksNeeded(check);
        blanksNeeded(check);
        placesLeft(check);
        oneLeftAtLeast(check);
        inTheBand(check);
        hours(check);
    }

    private static void texts(Check check) {
        check.sentence(PART, "HELD: a text is held against the TABLE: { NAME { , NAME } [ but P { , P } ] : WORD N - N . }");
        WeatherTeller teller = teller();
        check.held(teller, "", 0);
        check.held(teller, "a: x 0-1.", 1);
        check.held(teller, "r: x 0-1.", 1);
        check.held(teller, "a, b: x 0-1.", 1);
        check.held(teller, "a, b, r, a: x 0-1.", 1);
        check.held(teller, "all but c: x 0-1.", 1);
        check.held(teller, "all but c, b: x 0-1.", 1);
        check.held(teller, "a, all, b but c, b, c: x 0-1.", 1);
        check.held(teller, "a: x 0-1. b: x 0-1. all but c: x 0-1.", 3);
    }

    private static void tokens(Check check) {
        check.sentence(PART, "{ NAME { , NAME } [ but P { , P } ] : WORD N - N . }");
        String[] none = {".", ":", ",", "-", "5", "a x 0-1.", "a: 0-1.", ": x 0-1.", "a: x.", "a: x 0.", "a: x 0-.", "a: x -1.",
            "a,: x 0-1.", ",a: x 0-1.", "a,,b: x 0-1.", "a b: x 0-1.", "a but: x 0-1.", "but a: x 0-1.", "but: x 0-1.",
            "all but c but b: x 0-1.", "all but c b: x 0-1.", "all but c,: x 0-1.", "all but ,c: x 0-1.", "a:: x 0-1.",
            "a: x: 0-1.", "a: x x 0-1.", "a: x, x 0-1.", "a: x 0 1.", "a: x 0--1.", "a: x 0-1-2.", "a: x 0-1;", "a; x 0-1.",
            "a: x 0-1:", "a = x 0-1.", "A: x 0-1.", "a: X 0-1.", "a: but 0-1.", "a: x 0-1a.", "5: x 0-1.", "a: 5 0-1.",
            "q: x 0-1.", "a, q: x 0-1.", "all but q: x 0-1.", "a: q 0-1.", "x: x 0-1.", "a: a 0-1.", "aa: x 0-1.", "a: xx 0-1.",
            "a a x 0-1.", "a q x 0-1.", "all but c x 0-1.", "all but c c x 0-1.", "a but c, x 0-1.", "\0",
            "aaaaaaaaaaaaa: x 0-1.", "a: xxxxxxxxxxxxx 0-1.", "a but abcdefghijklm: x 0-1.", "place a;", "\377: x 0-1."};
        for (String text : none) {
            for (WeatherTeller teller : new WeatherTeller[] {teller(), allInAll()}) {
                check.held(teller, text, -1);
                check.held(teller, "a: x 0-1. " + text, -11);
                check.held(teller, "a: x 0-1." + text + " a: x 0-1.", -10);
            }
        }
        check.held(teller(), "a: x 0-1..", -10);
    }

    private static void cutTexts(Check check) {
        check.sentence(PART, "{ NAME { , NAME } [ but P { , P } ] : WORD N - N . }");
        String text = "a, all but c, b: x 0-1.";
        for (int n = 1; n <= text.length(); n++) {
            check.held(allInAll(), text.substring(0, n), n < text.length() ? -1 : 1);
        }
    }

    private static void takenOutArePlaces(Check check) {
        check.sentence(PART, "(P: a NAME of a PLACE");
        WeatherTeller teller = allInAll();
        check.held(teller, "all but c: x 0-1.", 1);
        check.held(teller, "all but s: x 0-1.", -1);
        check.held(teller, "all but c, s: x 0-1.", -1);
        check.held(teller, "s but s: x 0-1.", -1);
        check.held(teller, "all but r: x 0-1.", -1);
        check.held(teller, "all but x: x 0-1.", -1);
        // A PLACE may be taken out that is not among the NAMES.
        check.held(teller, "a but c: x 0-1.", 1);
        check.held(teller, "r but c, c: x 0-1.", 1);
    }

    private static void digits(Check check) {
        check.sentence(PART, "N: digits");
        WeatherTeller teller = allInAll();
        check.held(teller, "a: x 00-01.", 1);
        check.held(teller, "a: x " + "0".repeat(400) + "-" + "0".repeat(400) + "1.", 1);
        check.held(teller, "a: x -0-1.", -1);
        check.held(teller, "a: x 0--1.", -1);
        check.held(teller, "a: x +0-1.", -1);
        check.held(teller, "a: x /-1.", -1);
        check.held(teller, "a: x 0-:.", -1);
        check.held(teller, "a: x a-1.", -1);
    }

    private static void blanks(Check check) {
        check.sentence(PART, "blanks 32 between these as many as may be");
        String[] parts = {"a", ",", "all", "but", "c", ",", "b", ":", "x", "0", "-", "1", "."};
        for (int many : new int[] {1, 2, 30}) {
            String blanks = " ".repeat(many);
            check.held(teller(), String.join(blanks, parts), 1);
            check.held(teller(), String.join(blanks, parts) + blanks + String.join(blanks, parts), 2);
        }
        check.held(teller(), "   a: x 0-1.", 1);
        check.held(teller(), "a: x 0-1.   ", 1);
        check.held(teller(), "a: x 0-1." + " ".repeat(982) + "a: x 0-1.", 2);
    }

    private static void blanksThatAreNone(Check check) {
        check.sentence(PART, "blanks 32 between these");
        for (char sign : new char[] {0, 9, 10, 11, 13, 31, 33, 160}) {
            check.held(allInAll(), "a:" + sign + "x 0-1.", -1);
            check.held(allInAll(), "a: x" + sign + "0-1.", -1);
            check.held(allInAll(), "all" + sign + "but c: x 0-1.", -1);
            check.held(allInAll(), "a: x 0-1." + sign + "a: x 0-1.", -10);
            check.held(allInAll(), "a: x 0-1." + sign, -10);
            check.held(allInAll(), sign + "a: x 0-1.", -1);
        }
    }

    private static void noBlanksNeeded(Check check) {
        check.sentence(PART, "none where they are apart without)");
        check.held(teller(), "a:x0-1.", 1);
        check.held(teller(), "a,b:x0-1.b:x0-1.", 2);
        check.held(teller(), "a,all but c,b:x0-1.", 1);
    }

    private static void blanksNeeded(Check check) {
        check.sentence(PART, "none where they are apart without)");
        check.held(allInAll(), "allbut c:x0-1.", -1);
        check.held(allInAll(), "all butc:x0-1.", -1);
        check.held(allInAll(), "allbutc:x0-1.", -1);
        // Nor may there be blanks within a word or a number.
        check.held(allInAll(), "al l: x 0-1.", -1);
        check.held(allInAll(), "all b ut c: x 0-1.", -1);
        check.held(allInAll(), "a: x 0-0 1.", -1);
        check.held(allInAll(), "a: x 0 0-1.", -1);
    }

    private static void placesLeft(Check check) {
        check.sentence(PART, "Such a CLAUSE is TRUE if all PLACES that are left");
        WeatherTeller teller = teller();
        check.held(teller, "a: x 0-3.", 1);
        check.held(teller, "b: x 0-3.", -1);
        check.held(teller, "a, b: x 0-3.", -1);
        check.held(teller, "a, b: x 0-1.", 1);
        check.held(teller, "r: x 0-2.", -1);
        check.held(teller, "r but b: x 0-3.", 1);
        check.held(teller, "all: x 0-1.", -1);
        check.held(teller, "all but c: x 0-1.", 1);
        check.held(teller, "all but a: x 0-1.", -1);
        // What is taken out is left out wherever it is named.
        check.held(teller, "c, a but c: x 0-1.", 1);
        check.held(teller, "c but c, all: x 0-1.", -1);
    }

    private static void oneLeftAtLeast(Check check) {
        check.sentence(PART, "(one at least)");
        WeatherTeller teller = allInAll();
        check.held(teller, "a but a: x 0-1.", -1);
        check.held(teller, "r but a, b: x 0-1.", -1);
        check.held(teller, "all but a, b, c: x 0-1.", -1);
        check.held(teller, "all but b, c: x 0-1.", 1);
        check.held(teller, "a: x 0-1. a but a: x 0-1.", -11);
    }

    private static void inTheBand(Check check) {
        check.sentence(PART, "are IN the BAND in all HOURS from .. to");
        for (int hole = 0; hole < 24; hole++) {
            for (int v : new int[] {-1, 9, 999, -100}) {
                WeatherTeller teller = teller();
                teller.put(0, 0, 0, 23, 8, 0);
                if (v == -100) {
                    teller.miss(0, 0, hole, hole);
                } else {
                    teller.put(0, 0, hole, hole, v, 0);
                }
                check.held(teller, "a: x 0-23.", -1);
                check.held(teller, "a: x " + hole + "-" + hole + ".", -1);
                check.held(teller, hole == 0 ? "" : "a: x 0-" + (hole - 1) + ".", hole == 0 ? 0 : 1);
                check.held(teller, hole == 23 ? "" : "a: x " + (hole + 1) + "-23.", hole == 23 ? 0 : 1);
            }
        }
        WeatherTeller teller = teller();
        // A part of a span is TRUE, and so is a BAND of another QUANTITY that has the number.
        check.held(teller, "a: x 1-2.", 1);
        check.held(teller, "a: y 1-2.", -1);
        teller.put(1, 0, 1, 2, 0, 0);
        check.held(teller, "a: y 1-2.", 1);
        teller.next();
        check.held(teller, "a: x 1-2.", -1);
    }

    private static void hours(Check check) {
        check.sentence(PART, "(0 .. 23, from not above to).");
        WeatherTeller teller = teller();
        teller.put(0, 0, 0, 23, 0, 0);
        int[][] dues = {{0, 0, 1}, {0, 23, 1}, {23, 23, 1}, {12, 12, 1}, {12, 11, -1}, {23, 0, -1}, {0, 24, -1}, {23, 24, -1},
            {24, 24, -1}, {24, 0, -1}, {99, 99, -1}, {100, 5, -1}};
        for (int[] due : dues) {
            check.held(teller, "a: x " + due[0] + "-" + due[1] + ".", due[2]);
        }
        for (String wrap : new String[] {"4294967296", "4294967301", "18446744073709551616", "1" + "0".repeat(300)}) {
            check.held(teller, "a: x " + wrap + "-23.", -1);
            check.held(teller, "a: x 0-" + wrap + ".", -1);
            check.held(teller, "a: x " + wrap + "-" + wrap + ".", -1);
        }
    }

    /** "a" is IN "x" from 0 to 3, "b" from 0 to 1, "c" never. */
    private static WeatherTeller teller() {
        WeatherTeller teller = Check.withRules(
            "place a;place b;place c;region r=a,b;region all=r,c;region s=c;band 0 x 0 9 1;band 1 y 0 9 1;");
        teller.put(0, 0, 0, 3, 0, 0);
        teller.put(0, 1, 0, 1, 8, 0);
        return teller;
    }

    /** All PLACES are IN "x" and "y" all day: what isn't HELD here is no CLAUSE. */
    private static WeatherTeller allInAll() {
        WeatherTeller teller = teller();
        for (int place = 0; place < 3; place++) {
            teller.put(0, place, 0, 23, 0, 0);
            teller.put(1, place, 0, 23, 0, 0);
        }
        return teller;
    }
}
