/** Promise 2: feed, seen by what the tape's bytes mean as rules. */
public final class FeedTest {
    public static void main(String[] args) {
        Check check = new Check();
        bytesComeHighestFirst(check);
        tapeHasItsEnd(check);
        bytesAboveAsciiAreNoTokens(check);
        check.end();
    }

    private static void bytesComeHighestFirst(Check check) {
        WeatherTeller teller = new WeatherTeller();
        // "plac" "e ab" ";pla" "ce c" "d;  "
        check.same("feed", teller.feed(0x706c6163, 0x65206162, 0x3b706c61, 0x63652063, 0x643b2020), 20);
        check.same("rules", teller.rules(20), 0);
        check.same("places", teller.count(0), 2);
    }

    private static void tapeHasItsEnd(Check check) {
        WeatherTeller teller = new WeatherTeller();
        for (int fed = 20; fed <= 1000; fed += 20) {
            check.same("feed", teller.feed(0x20202020, 0x20202020, 0x20202020, 0x20202020, 0x20202020), fed);
        }
        check.same("feed beyond", teller.feed(-1, -1, -1, -1, -1), -1);
        check.same("feed beyond", teller.feed(-1, -1, -1, -1, -1), -1);
        check.same("rules of blanks", teller.rules(1000), 0);
        check.same("feed an empty tape", teller.feed(0, 0, 0, 0, 0), 20);
    }

    private static void bytesAboveAsciiAreNoTokens(Check check) {
        WeatherTeller teller = new WeatherTeller();
        teller.feed(0x202020ff, -1, -1, -1, -1);
        check.same("rules", teller.rules(20), -1);
        check.same("fault(0)", teller.fault(0), 1);
        check.same("fault(1)", teller.fault(1), 3);
    }
}
