/** Promise 2, sentence by sentence. The tape's bytes are seen by what rules() finds in them. */
final class Promise02Feed {
    private static final String PART = "Promise 2";
    private static final int BLANKS = 0x20202020;
    private static final int SEMICOLONS = 0x3b3b3b3b;

    private Promise02Feed() {
    }

    static void hold(Check check) {
        behindTheTape(check);
        highestFirst(check);
        howMany(check);
        notMoreThanThousand(check);
        noneCome(check);
    }

    private static void behindTheTape(Check check) {
        check.sentence(PART, "Twenty bytes come behind the TAPE");
        WeatherTeller teller = new WeatherTeller();
        // "              place abcdefghij;" goes over the end of the first twenty.
        teller.feed(BLANKS, BLANKS, BLANKS, 0x2020706c, 0x61636520);
        teller.feed(0x61626364, 0x65666768, 0x696a3b20, BLANKS, SEMICOLONS);
        check.same("rules(36)", teller.rules(36), 0);
        check.same("places", teller.count(0), 1);
        teller.feed(BLANKS, BLANKS, BLANKS, BLANKS, BLANKS);
        teller.feed(SEMICOLONS, BLANKS, BLANKS, BLANKS, BLANKS);
        check.same("rules(40)", teller.rules(40), -1);
        check.same("the first sign of the second feed", teller.fault(1), 20);
    }

    private static void highestFirst(Check check) {
        check.sentence(PART, "four of each number, the highest first");
        for (int at = 0; at < 20; at++) {
            for (int odd : new int[] {0, ';', 127, 128, 255}) {
                int[] five = {BLANKS, BLANKS, BLANKS, BLANKS, BLANKS};
                int shift = 24 - at % 4 * 8;
                five[at / 4] = five[at / 4] & ~(255 << shift) | odd << shift;
                WeatherTeller teller = new WeatherTeller();
                teller.feed(five[0], five[1], five[2], five[3], five[4]);
                check.same("rules with " + odd + " at " + at, teller.rules(20), -1);
                check.same("place of " + odd, teller.fault(1), at);
            }
        }
        WeatherTeller teller = new WeatherTeller();
        teller.feed(0x706c6163, 0x65206162, 0x3b706c61, 0x63652063, 0x643b2020);
        check.same("rules of 'place ab;place cd;'", teller.rules(20), 0);
        check.same("places", teller.count(0), 2);
    }

    private static void howMany(Check check) {
        check.sentence(PART, "how many it has");
        WeatherTeller teller = new WeatherTeller();
        for (int due = 20; due <= 1000; due += 20) {
            check.same("feed", teller.feed(-1, -1, -1, -1, -1), due);
        }
        teller.rules(1);
        check.same("feed an empty tape", teller.feed(-1, -1, -1, -1, -1), 20);
        teller.held(20);
        check.same("feed an empty tape", teller.feed(-1, -1, -1, -1, -1), 20);
        teller.held(21);
        check.same("feed behind a refused held", teller.feed(-1, -1, -1, -1, -1), 40);
        teller.rules(-1);
        check.same("feed behind refused rules", teller.feed(-1, -1, -1, -1, -1), 60);
    }

    private static void notMoreThanThousand(Check check) {
        check.sentence(PART, "NONE, and none come, if it would have more than 1000.");
        WeatherTeller teller = full();
        check.same("feed", teller.feed(BLANKS, BLANKS, BLANKS, BLANKS, BLANKS), -1);
        check.same("feed again", teller.feed(0, 0, 0, 0, 0), -1);
        check.same("rules(1001)", teller.rules(1001), -2);
        check.same("feed once more", teller.feed(0, 0, 0, 0, 0), -1);
        check.same("rules(1000)", teller.rules(1000), 0);
        check.same("feed an empty tape", teller.feed(0, 0, 0, 0, 0), 20);
    }

    private static void noneCome(Check check) {
        check.sentence(PART, "and none come");
        for (int n = 980; n <= 1000; n++) {
            WeatherTeller teller = full();
            teller.feed(SEMICOLONS, SEMICOLONS, SEMICOLONS, SEMICOLONS, SEMICOLONS);
            check.same("rules(" + n + ") of blanks", teller.rules(n), 0);
        }
        WeatherTeller teller = full();
        teller.feed(SEMICOLONS, SEMICOLONS, SEMICOLONS, SEMICOLONS, SEMICOLONS);
        check.same("held(1000) of blanks", teller.held(1000), 0);
    }

    /** A thousand blanks. */
    private static WeatherTeller full() {
        WeatherTeller teller = new WeatherTeller();
        for (int fed = 0; fed < 1000; fed += 20) {
            teller.feed(BLANKS, BLANKS, BLANKS, BLANKS, BLANKS);
        }
        return teller;
    }
}
