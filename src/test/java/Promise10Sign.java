/** Promise 10, sentence by sentence. */
final class Promise10Sign {
    private static final String PART = "Promise 10";
    private static final int[] NEVER = {-1, -2, 20000, 1 << 16, Integer.MIN_VALUE, Integer.MAX_VALUE};

    private Promise10Sign() {
    }

    static void hold(Check check) {
        signs(check);
        longText(check);
        noneSuch(check);
        noText(check);
    }

    private static void signs(Check check) {
        check.sentence(PART, "Sign k of the text at hand");
        WeatherTeller teller = told();
        String text = "a but z: x 0-9.";
        for (int k = 0; k < text.length(); k++) {
            check.same("sign(" + k + ")", teller.sign(k), text.charAt(k));
        }
        teller.next();
        check.same("the last sign behind next", teller.sign(14), '.');
        teller.put(0, 0, 0, 23, 7, 0);
        check.same("the first sign behind put", teller.sign(0), 'a');
    }

    /** WARNINGS make a text of more signs than a ROOM has, and more than an object has calls. */
    private static void longText(Check check) {
        check.sentence(PART, "Sign k of the text at hand");
        StringBuilder due = new StringBuilder();
        for (int k = 0; k < 24; k++) {
            int hour = k % 12 * 2 + k / 12;
            due.append(k == 0 ? "" : " ").append("pppppppppppp: ").append(k < 12 ? "wwwwwwwwwwww " : "vvvvvvvvvvvv ");
            due.append(hour).append("-").append(hour).append(".");
        }
        for (int from = 0; from <= due.length(); from += 300) {
            WeatherTeller teller = Check.withRules(
                "place pppppppppppp;band 0 wwwwwwwwwwww 0 1 1 warn;band 1 vvvvvvvvvvvv 0 1 1 warn;");
            for (int hour = 0; hour < 24; hour++) {
                teller.put(hour % 2, 0, hour, hour, 0, 0);
            }
            check.same("tell(0)", teller.tell(0), due.length());
            for (int k = from; k < from + 300; k++) {
                check.same("sign(" + k + ")", teller.sign(k), k < due.length() ? due.charAt(k) : -1);
            }
        }
    }

    private static void noneSuch(Check check) {
        check.sentence(PART, "NONE if there is none such");
        WeatherTeller teller = told();
        check.same("the last sign", teller.sign(14), '.');
        check.same("the one behind it", teller.sign(15), -1);
        none(check, teller);
        // A shorter text leaves nothing of the longer one behind it.
        teller.next();
        teller.put(0, 1, 0, 0, 1, 0);
        check.told(teller, 400, "z: x 0-0.");
        check.same("the last sign", teller.sign(8), '.');
        check.same("the one behind it", teller.sign(9), -1);
        check.told(teller, 9, "");
        check.same("sign(0) of an empty text", teller.sign(0), -1);
        none(check, teller);
    }

    private static void noText(Check check) {
        check.sentence(PART, "(or no text).");
        WeatherTeller teller = new WeatherTeller();
        check.same("sign(0) of a new object", teller.sign(0), -1);
        none(check, teller);
        teller = told();
        teller.rules(0);
        check.same("sign(0) behind rules", teller.sign(0), -1);
        none(check, teller);
    }

    private static void none(Check check, WeatherTeller teller) {
        for (int k : NEVER) {
            check.same("sign(" + k + ")", teller.sign(k), -1);
        }
    }

    /** "a but z: x 0-9." is at hand. */
    private static WeatherTeller told() {
        WeatherTeller teller = Check.withRules(
            "place p;place z;place q;place s;region a=p,q,s,z;band 0 x 0 9 1;");
        for (int place : new int[] {0, 2, 3}) {
            teller.put(0, place, 0, 9, 0, 0);
        }
        teller.tell(400);
        return teller;
    }
}
