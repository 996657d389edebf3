import java.nio.charset.StandardCharsets;
import java.util.ArrayList;
import java.util.Arrays;
import java.util.List;
import java.util.NoSuchElementException;
import java.util.Random;

/** All promises: random runs of calls, compared with the naive writing of the document. */
public final class RandomRunsTest {
    private static final int RUNS = 150;
    private static final int STEPS = 150;

    private final Random random;
    private final WeatherTeller teller = new WeatherTeller();
    private final Naive naive = new Naive();
    private final List<String> calls = new ArrayList<>();
    private List<String> places = List.of("a");
    private List<String> names = List.of("a");
    private List<String> words = List.of("x");
    private String landed = "";
    private boolean wrong = false;

    private RandomRunsTest(long seed) {
        random = new Random(seed);
    }

    public static void main(String[] args) {
        int runs = args.length > 0 ? Integer.parseInt(args[0]) : RUNS;
        int wrongRuns = 0;
        for (int seed = 0; seed < runs; seed++) {
            RandomRunsTest run = new RandomRunsTest(seed);
            run.play();
            if (run.wrong) {
                wrongRuns++;
                int shown = Math.max(0, run.calls.size() - 12);
                System.out.println("run " + seed + ": " + run.calls.subList(shown, run.calls.size()));
            }
        }
        if (wrongRuns != 0) {
            System.out.println(wrongRuns + " runs are wrong");
            System.exit(1);
        }
    }

    private void play() {
        rules(goodRules());
        for (int k = 0; k < STEPS && !wrong; k++) {
            int kind = random.nextInt(100);
            if (kind < 40) {
                change();
            } else if (kind < 45) {
                fillDay();
            } else if (kind < 62) {
                askFinding();
            } else if (kind < 74) {
                tellAll();
            } else if (kind < 88) {
                hold();
            } else if (kind < 89 || naive.count(0) == 0) {
                rules(goodRules());
            } else if (kind < 96) {
                rules(spoilt(landed, "abwxy placeregionbandwarnbut0123459-=,;\n \0\377"));
            } else {
                strange();
            }
        }
    }

    private void compare(String call, long got, long due) {
        calls.add(call + " " + got);
        if (got != due) {
            wrong = true;
            calls.add("due is " + due);
        }
    }

    private int below(int n) {
        return random.nextInt(n);
    }

    private <T> T oneOf(List<T> list) {
        return list.get(below(list.size()));
    }

    private String goodRules() {
        StringBuilder text = new StringBuilder();
        places = new ArrayList<>();
        names = new ArrayList<>();
        words = new ArrayList<>();
        List<String> free = new ArrayList<>(List.of("a", "b", "cc", "ddd", "ee", "f", "g", "north", "all", "mid", "x"));
        int wanted = 1 + below(6);
        int regionsLeft = below(6);
        while (places.size() < wanted || regionsLeft > 0) {
            String name = free.remove(below(free.size()));
            if (places.isEmpty() || places.size() < wanted && below(3) > 0) {
                text.append("place ").append(name).append(below(2) == 0 ? ";" : " ;\n");
                places.add(name);
            } else if (regionsLeft > 0) {
                regionsLeft--;
                text.append("region ").append(name).append(" = ").append(oneOf(names));
                for (int k = below(5); k > 0; k--) {
                    text.append(",").append(oneOf(names));
                }
                text.append(";");
            } else {
                free.add(name);
                continue;
            }
            names.add(name);
        }
        int[] low = {-5 + below(6), -5 + below(6), -5 + below(6)};
        for (int band = 1 + below(10); band > 0; band--) {
            int quantity = below(3);
            int high = low[quantity] + 1 + below(4);
            String word = "wxyz".substring(below(4)) + "abcdefghijk".charAt(band);
            if (!words.contains(word)) {
                words.add(word);
                text.append("band ").append(quantity).append(" ").append(word).append(" ").append(low[quantity]);
                text.append(" ").append(high).append(" ").append(1 + below(below(2) == 0 ? 3 : 9));
                text.append(below(5) == 0 ? " warn;" : ";");
                low[quantity] = high + below(2);
            }
        }
        landed = text.toString();
        return landed;
    }

    private String spoilt(String text, String signs) {
        StringBuilder spoilt = new StringBuilder(text);
        for (int k = below(3); k >= 0 && spoilt.length() > 0; k--) {
            int at = below(spoilt.length());
            switch (below(5)) {
                case 0 -> spoilt.deleteCharAt(at);
                case 1 -> spoilt.insert(at, signs.charAt(below(signs.length())));
                case 2 -> spoilt.setCharAt(at, signs.charAt(below(signs.length())));
                case 3 -> spoilt.insert(at, text.substring(below(text.length())));
                default -> spoilt.setLength(at);
            }
        }
        return spoilt.toString();
    }

    private void feed(String text) {
        byte[] bytes = text.getBytes(StandardCharsets.ISO_8859_1);
        for (int at = 0; at < bytes.length; at += 20) {
            byte[] part = Arrays.copyOf(Arrays.copyOfRange(bytes, at, Math.min(bytes.length, at + 20)), 20);
            int[] five = new int[5];
            for (int i = 0; i < 20; i++) {
                five[i / 4] = five[i / 4] << 8 | part[i] & 255;
            }
            compare("feed", teller.feed(five[0], five[1], five[2], five[3], five[4]), naive.feed(five));
        }
    }

    private void rules(String text) {
        if (text.length() > 1000) {
            return;
        }
        feed(text);
        int n = text.length();
        compare("rules '" + text + "'", teller.rules(n), naive.rules(n));
        compare("fault(0)", teller.fault(0), naive.fault(0));
        compare("fault(1)", teller.fault(1), naive.fault(1));
        for (int what = -1; what <= 7; what++) {
            compare("count " + what, teller.count(what), naive.count(what));
        }
    }

    private void change() {
        int quantity = below(3);
        int from = below(24);
        int to = Math.min(23, from + below(below(2) == 0 ? 4 : 24));
        int v = -6 + below(20);
        int step = below(3) == 0 ? below(5) - 2 : 0;
        for (int place = 0; place < places.size(); place++) {
            if (below(2) == 0) {
                String call = "(" + quantity + ", " + place + ", " + from + ", " + to + ", " + v + ", " + step + ")";
                if (below(6) == 0) {
                    compare("miss" + call, teller.miss(quantity, place, from, to) ? 1 : 0,
                        naive.miss(quantity, place, from, to) ? 1 : 0);
                } else {
                    compare("put" + call, teller.put(quantity, place, from, to, v, step) ? 1 : 0,
                        naive.put(quantity, place, from, to, v, step) ? 1 : 0);
                }
            }
        }
        if (below(30) == 0) {
            teller.next();
            naive.next();
        }
        int bound = below(6) - 1;
        compare("changed", teller.changed(quantity, bound), naive.changed(quantity, bound));
        compare("number", teller.number(quantity, 0, from), naive.number(quantity, 0, from));
    }

    private void fillDay() {
        int quantity = below(3);
        int place = below(places.size());
        for (int hour = 0; hour < 24; hour++) {
            int v = -5 + below(15);
            compare("put", teller.put(quantity, place, hour, hour, v, 0) ? 1 : 0,
                naive.put(quantity, place, hour, hour, v, 0) ? 1 : 0);
        }
    }

    private void askFinding() {
        int size = naive.count(3);
        compare("count(3)", teller.count(3), size);
        compare("count(4)", teller.count(4), naive.count(4));
        int k = below(size + 2) - 1;
        for (int what = -1; what <= 9; what++) {
            compare("finding(" + k + ", " + what + ")", answer(k, what, true), answer(k, what, false));
        }
    }

    private long answer(int k, int what, boolean ofTeller) {
        try {
            return ofTeller ? teller.finding(k, what) : naive.finding(k, what);
        } catch (IndexOutOfBoundsException e) {
            return 1L << 40;
        } catch (NoSuchElementException e) {
            return 1L << 41;
        }
    }

    private void tellAll() {
        int room = below(3) == 0 ? below(403) - 1 : below(4) == 0 ? 380 + below(21) : below(120);
        compare("tell(" + room + ")", teller.tell(room), naive.tell(room));
        int signs = 0;
        while (naive.sign(signs) != -1) {
            compare("sign(" + signs + ")", teller.sign(signs), naive.sign(signs));
            signs++;
        }
        compare("sign behind", teller.sign(signs), -1);
        for (int k = -1; k <= naive.count(5); k++) {
            compare("told(" + k + ")", teller.told(k), naive.told(k));
        }
        compare("count(5)", teller.count(5), naive.count(5));
        compare("count(6)", teller.count(6), naive.count(6));
    }

    private void hold() {
        StringBuilder text = new StringBuilder();
        if (below(3) == 0) {
            for (int k = 0; teller.sign(k) != -1 && k < 900; k++) {
                text.append((char) teller.sign(k));
            }
        } else {
            for (int clause = below(4); clause >= 0; clause--) {
                text.append(clause());
            }
        }
        String read = text.toString();
        if (below(2) == 0 && !read.isEmpty()) {
            read = spoilt(read, "abcx: ,.-0123but\n\0\377");
        }
        if (read.length() <= 1000) {
            feed(read);
            int n = read.length();
            compare("held '" + read + "'", teller.held(n), naive.held(n));
        }
    }

    private String clause() {
        StringBuilder text = new StringBuilder();
        int size = naive.count(3);
        if (size > 0 && below(3) > 0) {
            int k = below(size);
            for (int place = 0; place < places.size(); place++) {
                if ((naive.finding(k, 3) >> place & 1) == 1 && place < naive.count(0)) {
                    text.append(text.length() == 0 ? "" : ",").append(blanks()).append(places.get(place));
                }
            }
            text.append(":").append(blanks()).append(words.get(naive.finding(k, 0) % words.size()));
            int from = naive.finding(k, 1);
            int to = naive.finding(k, 2);
            return text + " " + (from + below(to - from + 1)) + "-" + to + "." + blanks();
        }
        text.append(oneOf(names));
        for (int k = below(3); k > 0; k--) {
            text.append(blanks()).append(",").append(oneOf(names));
        }
        if (below(3) == 0) {
            text.append(" but ").append(oneOf(places));
            for (int k = below(2); k > 0; k--) {
                text.append(",").append(blanks()).append(oneOf(places));
            }
        }
        int from = below(24);
        return text + ":" + oneOf(words) + blanks() + from + "-" + (from + below(3)) + blanks() + ".";
    }

    private String blanks() {
        return "  ".substring(below(3));
    }

    private int strangeNumber() {
        return switch (below(6)) {
            case 0 -> Integer.MIN_VALUE;
            case 1 -> Integer.MAX_VALUE;
            case 2 -> random.nextInt();
            case 3 -> 1000 - below(3);
            default -> below(30) - 3;
        };
    }

    private void strange() {
        int[] s = new int[6];
        for (int i = 0; i < 6; i++) {
            s[i] = strangeNumber();
        }
        compare("put " + Arrays.toString(s), teller.put(s[0], s[1], s[2], s[3], s[4], s[5]) ? 1 : 0,
            naive.put(s[0], s[1], s[2], s[3], s[4], s[5]) ? 1 : 0);
        compare("miss", teller.miss(s[0], s[1], s[2], s[3]) ? 1 : 0, naive.miss(s[0], s[1], s[2], s[3]) ? 1 : 0);
        compare("number", teller.number(s[0], s[1], s[2]), naive.number(s[0], s[1], s[2]));
        compare("changed", teller.changed(s[0], s[1]), naive.changed(s[0], s[1]));
        compare("finding", answer(s[0], s[1], true), answer(s[0], s[1], false));
        compare("sign", teller.sign(s[0]), naive.sign(s[0]));
        compare("told", teller.told(s[0]), naive.told(s[0]));
        compare("count", teller.count(s[0]), naive.count(s[0]));
        compare("fault", teller.fault(s[0]), naive.fault(s[0]));
        compare("tell", teller.tell(s[0]), naive.tell(s[0]));
        compare("feed", teller.feed(s[0], s[1], s[2], s[3], s[4]), naive.feed(s[0], s[1], s[2], s[3], s[4]));
        compare("held " + s[5], teller.held(s[5]), naive.held(s[5]));
        compare("feed", teller.feed(s[0], s[1], s[2], s[3], s[4]), naive.feed(s[0], s[1], s[2], s[3], s[4]));
        compare("rules " + s[4], teller.rules(s[4]), naive.rules(s[4]));
        compare("held(0)", teller.held(0), naive.held(0));
    }
}
