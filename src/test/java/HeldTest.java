/** Promise 12: held. */
public final class HeldTest {
    private static final String RULES =
        "place a;place b;place c;region r=a,b;region all=r,c;band 0 x 0 9 1;band 1 y 5 6 1;";

    public static void main(String[] args) {
        Check check = new Check();
        trueClauses(check);
        clausesThatAreNotTrue(check);
        textsThatAreNoClauses(check);
        blanks(check);
        places(check);
        tape(check);
        whatIsToldIsHeld(check);
        check.end();
    }

    private static WeatherTeller teller() {
        WeatherTeller teller = Check.withRules(RULES);
        teller.put(0, 0, 0, 23, 5, 0);
        teller.put(0, 1, 5, 10, 8, 0);
        teller.put(1, 2, 23, 23, 5, 0);
        return teller;
    }

    private static void trueClauses(Check check) {
        WeatherTeller teller = teller();
        check.held(teller, "", 0);
        check.held(teller, "a: x 0-23.", 1);
        check.held(teller, "a: x 7-7.", 1);
        check.held(teller, "r: x 5-10.", 1);
        check.held(teller, "a, b: x 5-6. c: y 23-23.", 2);
        check.held(teller, "all but c: x 6-7.", 1);
        check.held(teller, "all but c, b: x 0-23.", 1);
        check.held(teller, "b, a, r, a: x 5-5.", 1);
        check.held(teller, "r but c, b, b: x 0-1.", 1);
        check.held(teller, "a: x 000000000000000000000-0000000000000000000023.", 1);
    }

    private static void clausesThatAreNotTrue(Check check) {
        WeatherTeller teller = teller();
        check.held(teller, "b: x 4-10.", -1);
        check.held(teller, "b: x 5-11.", -1);
        check.held(teller, "all: x 5-5.", -1);
        check.held(teller, "a: y 5-5.", -1);
        check.held(teller, "a: x 5-4.", -1);
        check.held(teller, "a: x 23-24.", -1);
        check.held(teller, "a: x 24-24.", -1);
        check.held(teller, "a: x 4294967296-4294967296.", -1);
        check.held(teller, "r but a, b: x 5-5.", -1);
        check.held(teller, "a but a: x 5-5.", -1);
        check.held(teller, "a: x 0-1. b: x 0-1. a: x 0-1.", -1 - 10);
    }

    private static void textsThatAreNoClauses(Check check) {
        WeatherTeller teller = teller();
        String[] none = {".", "a", "a:", "a: x", "a: x 0", "a: x 0-", "a: x 0-1", "a x 0-1.", "a: 0-1.", ": x 0-1.",
            "a,: x 0-1.", ",a: x 0-1.", "a b: x 0-1.", "a but: x 0-1.", "but a: x 0-1.", "all but r: x 0-1.",
            "all but c but b: x 0-1.", "all but c b: x 0-1.", "all butc: x 0-1.", "allbut c: x 0-1.", "a: x 0 1.",
            "a: x 0--1.", "a: x -0-1.", "a: z 0-1.", "d: x 0-1.", "A: x 0-1.", "a: x 0-1;", "a; x 0-1.", "a: a 0-1.",
            "x: x 0-1.", "a b x 0-1.", "a z: x 0-1.", "a but c x 0-1.", "a: x a-1.", "a: x y 0-1.", "a: x 0 0-1.", "abcdefghijklmn: x 0-1.", "a: x 0-1 1.",
            "a: x0-1x.", "all but , c: x 0-1.", "all but c,: x 0-1.", "\u00e1: x 0-1.", "place: x 0-1."};
        for (String text : none) {
            check.held(teller, text, -1);
            check.held(teller, "a: x 0-1. " + text + " a: x 0-1.", -1 - 10);
        }
        check.held(teller, "a: x 0-1..", -1 - 9);
        check.held(teller, "a: x 0-1.\na: x 0-1.", -1 - 9);
        check.held(teller, "a:\nx 0-1.", -1);
    }

    private static void blanks(Check check) {
        WeatherTeller teller = teller();
        check.held(teller, "a:x0-1.", 1);
        check.held(teller, "a,b:x5-6.c:y23-23.", 2);
        check.held(teller, "all but c,b:x0-1.", 1);
        check.held(teller, "  all  but  c  ,  b  :  x  0  -  1  .  ", 1);
        check.held(teller, "    ", 0);
        check.held(teller, "   b: x 0-1.", -1 - 3);
        check.held(teller, "a: x 0-1.   b: x 0-1.", -1 - 12);
        check.held(teller, "a: x 1 2-13.", -1);
    }

    private static void places(Check check) {
        WeatherTeller teller = teller();
        teller.next();
        check.held(teller, "a: x 0-0.", -1);
        teller.put(0, 2, 0, 0, 8, 0);
        check.held(teller, "c: x 0-0.", 1);
        check.held(teller, "all but a, b: x 0-0.", 1);
        check.held(teller, "all but a: x 0-0.", -1);
        check.held(new WeatherTeller(), "a: x 0-0.", -1);
    }

    private static void tape(Check check) {
        WeatherTeller teller = teller();
        Check.feedText(teller, "a: x 0-1. b: x 0-1. ");
        check.same("held(21)", teller.held(21), -10000);
        check.same("held(-1)", teller.held(-1), -10000);
        check.same("held(least)", teller.held(Integer.MIN_VALUE), -10000);
        check.same("held of the first 9", teller.held(9), 1);
        check.same("the tape is empty", teller.held(1), -10000);
        Check.feedText(teller, "a: x 0-1.           ");
        check.same("the first 8 have no .", teller.held(8), -1);
        Check.feedText(teller, "a: x 0-1.b: x 0-1.  ");
        check.same("the first 9 are one clause", teller.held(9), 1);
        Check.feedText(teller, "zzz                 ");
        check.same("held", teller.held(20), -1);
        check.same("the tape is empty", teller.held(1), -10000);
        check.same("feed", teller.feed(0, 0, 0, 0, 0), 20);
        StringBuilder text = new StringBuilder();
        for (int k = 0; k < 142; k++) {
            text.append("a:x0-1.");
        }
        teller = teller();
        check.held(teller, text.toString(), 142);
    }

    private static void whatIsToldIsHeld(Check check) {
        WeatherTeller teller = teller();
        teller.tell(400);
        String text = Check.text(teller);
        check.same("text", text, "a: x 0-23. b: x 5-10. c: y 23-23.");
        check.held(teller, text, 3);
    }
}
