import java.util.Random;

/** As many FINDINGS as can be, none or some of them WARNINGS, told in large rooms. */
public final class FullDayTest {
    public static void main(String[] args) {
        Check check = new Check();
        for (int warnings = 0; warnings <= 2; warnings++) {
            compareWithNaive(check, warnings);
        }
        check.end();
    }

    private static void compareWithNaive(Check check, int warnings) {
        WeatherTeller teller = new WeatherTeller();
        Naive naive = new Naive();
        Random random = new Random(warnings);
        String text = rules(random, warnings);
        for (int at = 0; at < text.length(); at += 20) {
            int[] five = new int[5];
            for (int i = 0; i < 20; i++) {
                five[i / 4] = five[i / 4] << 8 | (at + i < text.length() ? text.charAt(at + i) : ' ');
            }
            check.same("feed", teller.feed(five[0], five[1], five[2], five[3], five[4]), naive.feed(five));
        }
        check.same("rules", teller.rules(text.length()), 24);
        naive.rules(text.length());
        for (int cell = 0; cell < 432; cell++) {
            int hour = cell % 24;
            int number = (cell / 24 + hour) % 8;
            teller.put(cell / 144, cell / 24 % 6, hour, hour, number, 0);
            naive.put(cell / 144, cell / 24 % 6, hour, hour, number, 0);
        }
        check.same("findings", teller.count(3), 432);
        for (int room = 400; room >= 380; room -= 3) {
            check.same("tell(" + room + ")", teller.tell(room), naive.tell(room));
            check.same("count(5)", teller.count(5), naive.count(5));
            check.same("count(6)", teller.count(6), naive.count(6));
            for (int k = 0; k <= naive.count(5); k++) {
                check.same("told(" + k + ") in " + room, teller.told(k), naive.told(k));
            }
        }
    }

    private static String rules(Random random, int warnings) {
        StringBuilder text = new StringBuilder("place a;place bb;place ccc;place d;place ee;place fff;");
        for (int band = 0; band < 24; band++) {
            text.append("band ").append(band / 8).append(" ").append((char) ('a' + band)).append("www".substring(band % 3));
            text.append(" ").append(band % 8).append(" ").append(band % 8 + 1).append(" ").append(1 + random.nextInt(9));
            text.append(band < warnings ? " warn;" : ";");
        }
        return text.toString();
    }
}
