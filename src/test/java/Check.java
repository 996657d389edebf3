import java.nio.charset.StandardCharsets;
import java.util.NoSuchElementException;

/** What the tests have in common: counting wrong answers, and feeding texts to a teller. */
final class Check {
    private final Document document;
    private String sentence = "";
    private int sentences = 0;
    private int wrong = 0;

    Check() {
        this(null);
    }

    /** Sentences are looked up in that document. */
    Check(Document document) {
        this.document = document;
    }

    /** What is checked from here on holds these words of that part of the document. */
    void sentence(String part, String words) {
        sentence = part + " \"" + words + "\": ";
        sentences++;
        if (document != null && !document.quote(part, words)) {
            fails("these words aren't there");
        }
    }

    int sentences() {
        return sentences;
    }

    void same(String call, long got, long due) {
        if (got != due) {
            fails(call + " answered " + got + ", due is " + due);
        }
    }

    void same(String call, String got, String due) {
        if (!got.equals(due)) {
            fails(call + " answered '" + got + "', due is '" + due + "'");
        }
    }

    void fails(String what) {
        wrong++;
        System.out.println(sentence + what);
    }

    void isTrue(String call, boolean got) {
        same(call, got ? 1 : 0, 1);
    }

    void isFalse(String call, boolean got) {
        same(call, got ? 1 : 0, 0);
    }

    /** FINDING k as "band from to places weight warning signs names takenOut". */
    void finding(WeatherTeller teller, int k, String due) {
        same("finding " + k, findingText(teller, k), due);
    }

    /** rules() of a text that has a FAULT. */
    void fault(String text, int kind, int place) {
        WeatherTeller teller = new WeatherTeller();
        same("rules of '" + text + "'", rules(teller, text), -1);
        same("fault(0) of '" + text + "'", teller.fault(0), kind);
        same("fault(1) of '" + text + "'", teller.fault(1), place);
    }

    /** rules() of a text that has no FAULT. */
    void rules(String text, int bands) {
        WeatherTeller teller = new WeatherTeller();
        same("rules of '" + text + "'", rules(teller, text), bands);
        same("fault(0) of '" + text + "'", teller.fault(0), 0);
        same("fault(1) of '" + text + "'", teller.fault(1), -1);
    }

    void held(WeatherTeller teller, String text, int due) {
        same("held of '" + text + "'", held(teller, text), due);
    }

    /** The text at hand, told in that room; its length is checked as well. */
    void told(WeatherTeller teller, int room, String due) {
        int signs = teller.tell(room);
        same("tell(" + room + ")", signs, due.length());
        same("text in " + room, text(teller), due);
    }

    void end() {
        if (wrong != 0) {
            System.out.println(wrong + " wrong");
            System.exit(1);
        }
    }

    static int feedBytes(WeatherTeller teller, byte[] bytes) {
        int fed = 0;
        for (int at = 0; at < bytes.length; at += 20) {
            int[] five = new int[5];
            for (int i = 0; i < 20; i++) {
                int b = at + i < bytes.length ? bytes[at + i] & 255 : 0;
                five[i / 4] = five[i / 4] << 8 | b;
            }
            fed = teller.feed(five[0], five[1], five[2], five[3], five[4]);
        }
        return fed;
    }

    static int feedText(WeatherTeller teller, String text) {
        return feedBytes(teller, text.getBytes(StandardCharsets.ISO_8859_1));
    }

    static int rules(WeatherTeller teller, String text) {
        feedText(teller, text);
        return teller.rules(text.length());
    }

    static int held(WeatherTeller teller, String text) {
        feedText(teller, text);
        return teller.held(text.length());
    }

    static WeatherTeller withRules(String text) {
        WeatherTeller teller = new WeatherTeller();
        if (rules(teller, text) < 0) {
            throw new IllegalArgumentException("fault " + teller.fault(0) + " at " + teller.fault(1) + " of " + text);
        }
        return teller;
    }

    static String text(WeatherTeller teller) {
        StringBuilder signs = new StringBuilder();
        for (int sign = teller.sign(0); sign != -1; sign = teller.sign(signs.length())) {
            signs.append((char) sign);
        }
        return signs.toString();
    }

    static String findingText(WeatherTeller teller, int k) {
        StringBuilder parts = new StringBuilder();
        for (int what = 0; what <= 8; what++) {
            parts.append(what == 0 ? "" : " ").append(teller.finding(k, what));
        }
        return parts.toString();
    }

    /** 1 for IndexOutOfBoundsException, 2 for NoSuchElementException, 0 if nothing is thrown. */
    static int thrown(WeatherTeller teller, int k, int what) {
        try {
            teller.finding(k, what);
            return 0;
        } catch (IndexOutOfBoundsException e) {
            return 1;
        } catch (NoSuchElementException e) {
            return 2;
        }
    }
}
