import java.util.ArrayList;
import java.util.Arrays;
import java.util.LinkedHashMap;
import java.util.List;
import java.util.Map;
import java.util.NoSuchElementException;
import java.util.TreeMap;
import java.util.regex.Matcher;
import java.util.regex.Pattern;

/**
 * The document once more, written another way and with the whole Java library, for comparing runs
 * of calls. It is slow and makes as many objects as it likes.
 */
final class Naive {
    private static final List<String> KEPT = List.of("place", "region", "band", "warn", "but");

    record Band(int quantity, String word, int low, int high, int grade, boolean warning) {
    }

    record Finding(int band, int from, int to, int places) {
    }

    record Token(String text, int at) {
    }

    /** A set of findings that needs as many signs: its weight, and which they are. */
    record Choice(int weight, List<Integer> numbers) {
    }

    private static final class Fault extends RuntimeException {
        private static final long serialVersionUID = 1L;
        private final int kind;
        private final int place;

        Fault(int kind, int place) {
            this.kind = kind;
            this.place = place;
        }
    }

    private String tape = "";
    private List<String> places = new ArrayList<>();
    private Map<String, Integer> regions = new LinkedHashMap<>();
    private List<Band> bands = new ArrayList<>();
    private int[][][] now = missing();
    private int[][][] before = missing();
    private int faultKind = 0;
    private int faultPlace = -1;
    private String text = "";
    private List<Integer> told = List.of();
    private int toldWeight = 0;

    // What is being read.
    private List<Token> tokens;
    private int nextToken;
    private int textLength;

    private static int[][][] missing() {
        int[][][] table = new int[3][6][24];
        for (int[][] rows : table) {
            for (int[] row : rows) {
                Arrays.fill(row, -100);
            }
        }
        return table;
    }

    int feed(int... five) {
        if (tape.length() + 20 > 1000) {
            return -1;
        }
        StringBuilder more = new StringBuilder(tape);
        for (int number : five) {
            more.append((char) (number >>> 24)).append((char) (number >>> 16 & 255));
            more.append((char) (number >>> 8 & 255)).append((char) (number & 255));
        }
        tape = more.toString();
        return tape.length();
    }

    int rules(int n) {
        if (n < 0 || n > tape.length()) {
            return -2;
        }
        String read = tape.substring(0, n);
        tape = "";
        List<String> oldPlaces = places;
        Map<String, Integer> oldRegions = regions;
        List<Band> oldBands = bands;
        places = new ArrayList<>();
        regions = new LinkedHashMap<>();
        bands = new ArrayList<>();
        try {
            readRules(read);
        } catch (Fault fault) {
            faultKind = fault.kind;
            faultPlace = fault.place;
            places = oldPlaces;
            regions = oldRegions;
            bands = oldBands;
            return -1;
        }
        faultKind = 0;
        faultPlace = -1;
        now = missing();
        before = missing();
        text = "";
        told = List.of();
        toldWeight = 0;
        return bands.size();
    }

    private void readRules(String read) {
        tokens = new ArrayList<>();
        nextToken = 0;
        textLength = read.length();
        Matcher matcher = Pattern.compile("[a-z]+|-?[0-9]+|[^ \\n]", Pattern.DOTALL).matcher(read);
        while (matcher.find()) {
            tokens.add(new Token(matcher.group(), matcher.start()));
        }
        while (nextToken < tokens.size()) {
            Token first = take("place|region|band");
            if (first.text.equals("place")) {
                limit(places.size() < 6, first);
                String name = newName();
                take(";");
                places.add(name);
            } else if (first.text.equals("region")) {
                limit(regions.size() < 5, first);
                readRegion();
            } else {
                limit(bands.size() < 24, first);
                readBand();
            }
        }
    }

    private void readRegion() {
        String name = newName();
        take("=");
        int joined = 0;
        do {
            Token member = takeWord();
            if (!names().contains(member.text)) {
                throw new Fault(4, member.at);
            }
            joined |= placesOf(member.text);
        } while (take(",|;").text.equals(","));
        regions.put(name, joined);
    }

    private void readBand() {
        int quantity = takeNumber(0, 2);
        Token word = takeWord();
        for (Band band : bands) {
            if (band.word.equals(word.text)) {
                throw new Fault(3, word.at);
            }
        }
        int lowAt = nextToken < tokens.size() ? tokens.get(nextToken).at : textLength;
        int low = takeNumber(-99, 999);
        int high = takeNumber(-99, 999);
        boolean clash = low >= high;
        for (Band band : bands) {
            for (int number = low; number < high; number++) {
                clash |= band.quantity == quantity && band.low <= number && number < band.high;
            }
        }
        if (clash) {
            throw new Fault(5, lowAt);
        }
        int grade = takeNumber(1, 9);
        boolean warning = take("warn|;").text.equals("warn");
        if (warning) {
            take(";");
        }
        bands.add(new Band(quantity, word.text, low, high, grade, warning));
    }

    private static void limit(boolean free, Token word) {
        if (!free) {
            throw new Fault(2, word.at);
        }
    }

    private Token take(String pattern) {
        if (nextToken >= tokens.size()) {
            throw new Fault(1, textLength);
        }
        Token token = tokens.get(nextToken++);
        if (!token.text.matches(pattern)) {
            throw new Fault(1, token.at);
        }
        return token;
    }

    private Token takeWord() {
        Token token = take("[a-z]{1,12}");
        if (KEPT.contains(token.text)) {
            throw new Fault(1, token.at);
        }
        return token;
    }

    private String newName() {
        Token token = takeWord();
        if (names().contains(token.text)) {
            throw new Fault(3, token.at);
        }
        return token.text;
    }

    private int takeNumber(int least, int most) {
        Token token = take("-?[0-9]+");
        java.math.BigInteger value = new java.math.BigInteger(token.text);
        if (value.compareTo(java.math.BigInteger.valueOf(least)) < 0
            || value.compareTo(java.math.BigInteger.valueOf(most)) > 0) {
            throw new Fault(2, token.at);
        }
        return value.intValue();
    }

    private List<String> names() {
        List<String> names = new ArrayList<>(places);
        names.addAll(regions.keySet());
        return names;
    }

    private int placesOf(String name) {
        return places.contains(name) ? 1 << places.indexOf(name) : regions.getOrDefault(name, 0);
    }

    int fault(int what) {
        return what == 0 ? faultKind : what == 1 ? faultPlace : -1;
    }

    private boolean isThere(int quantity, int place, int from, int to) {
        return quantity >= 0 && quantity <= 2 && place >= 0 && place < places.size()
            && from >= 0 && from <= to && to <= 23;
    }

    boolean put(int quantity, int place, int from, int to, int v, int step) {
        if (!isThere(quantity, place, from, to) || step < -99 || step > 99) {
            return false;
        }
        for (int hour = from; hour <= to; hour++) {
            long number = v + (long) step * (hour - from);
            if (number < -99 || number > 999) {
                return false;
            }
        }
        for (int hour = from; hour <= to; hour++) {
            now[quantity][place][hour] = v + step * (hour - from);
        }
        return true;
    }

    boolean miss(int quantity, int place, int from, int to) {
        if (!isThere(quantity, place, from, to)) {
            return false;
        }
        Arrays.fill(now[quantity][place], from, to + 1, -100);
        return true;
    }

    int number(int quantity, int place, int hour) {
        return isThere(quantity, place, hour, hour) ? now[quantity][place][hour] : -100;
    }

    private boolean isIn(int band, int place, int hour) {
        Band told = bands.get(band);
        int number = hour < 0 || hour > 23 ? -100 : now[told.quantity][place][hour];
        return number != -100 && number >= told.low && number < told.high;
    }

    private List<Finding> findings() {
        List<Finding> found = new ArrayList<>();
        for (int band = 0; band < bands.size(); band++) {
            for (int from = 0; from < 24; from++) {
                for (int to = from; to < 24; to++) {
                    int set = 0;
                    for (int place = 0; place < places.size(); place++) {
                        boolean all = !isIn(band, place, from - 1) && !isIn(band, place, to + 1);
                        for (int hour = from; hour <= to && all; hour++) {
                            all = isIn(band, place, hour);
                        }
                        set |= all ? 1 << place : 0;
                    }
                    if (set != 0) {
                        found.add(new Finding(band, from, to, set));
                    }
                }
            }
        }
        return found;
    }

    private int weight(Finding finding) {
        return bands.get(finding.band).grade * Integer.bitCount(finding.places) * (finding.to - finding.from + 1);
    }

    /** NAMES and PLACES taken out: from none of the latter on, all ways of taking some out. */
    private int[] group(int set) {
        List<String> names = names();
        int[] best = null;
        int fewest = 99;
        for (int chosen = 0; chosen < 1 << names.size(); chosen++) {
            int joined = 0;
            for (int k = 0; k < names.size(); k++) {
                joined |= (chosen >> k & 1) == 1 ? placesOf(names.get(k)) : 0;
            }
            for (int out = 0; out < 1 << places.size(); out++) {
                int needed = Integer.bitCount(chosen) + Integer.bitCount(out);
                if ((joined & ~out) == set && needed < fewest) {
                    fewest = needed;
                    best = new int[] {chosen, out};
                }
            }
        }
        return best;
    }

    private String named(int bits) {
        List<String> names = names();
        List<String> those = new ArrayList<>();
        for (int k = 0; k < names.size(); k++) {
            if ((bits >> k & 1) == 1) {
                those.add(names.get(k));
            }
        }
        return String.join(", ", those);
    }

    private String clause(Finding finding) {
        int[] group = group(finding.places);
        return named(group[0]) + (group[1] == 0 ? "" : " but " + named(group[1])) + ": "
            + bands.get(finding.band).word + " " + finding.from + "-" + finding.to + ".";
    }

    int finding(int k, int what) {
        List<Finding> all = findings();
        if (k < 0 || k >= all.size()) {
            throw new IndexOutOfBoundsException();
        }
        Finding it = all.get(k);
        return switch (what) {
            case 0 -> it.band;
            case 1 -> it.from;
            case 2 -> it.to;
            case 3 -> it.places;
            case 4 -> weight(it);
            case 5 -> bands.get(it.band).warning ? 1 : 0;
            case 6 -> clause(it).length();
            case 7 -> group(it.places)[0];
            case 8 -> group(it.places)[1];
            default -> throw new NoSuchElementException();
        };
    }

    int tell(int room) {
        if (room < 0 || room > 400) {
            return -1;
        }
        List<Finding> all = findings();
        List<Integer> order = new ArrayList<>();
        List<String> clauses = new ArrayList<>();
        for (Finding finding : all) {
            clauses.add(clause(finding));
        }
        StringBuilder warnings = new StringBuilder();
        for (int k = 0; k < all.size(); k++) {
            if (bands.get(all.get(k).band).warning) {
                order.add(k);
                warnings.append(warnings.length() == 0 ? "" : " ").append(clauses.get(k));
            }
        }
        List<Integer> others = choose(all, clauses, room - warnings.length());
        others.sort((one, other) -> {
            Finding a = all.get(one);
            Finding b = all.get(other);
            return weight(a) != weight(b) ? weight(b) - weight(a) : a.from != b.from ? a.from - b.from : one - other;
        });
        order.addAll(others);
        List<String> parts = new ArrayList<>();
        toldWeight = 0;
        for (int k : order) {
            parts.add(clauses.get(k));
            toldWeight += weight(all.get(k));
        }
        told = order;
        text = String.join(" ", parts);
        return text.length();
    }

    /** The best set for each need of signs, from the first finding on; then the best of these. */
    private List<Integer> choose(List<Finding> all, List<String> clauses, int room) {
        TreeMap<Integer, Choice> bySigns = new TreeMap<>();
        bySigns.put(0, new Choice(0, List.of()));
        for (int k = 0; k < all.size(); k++) {
            if (!bands.get(all.get(k).band).warning) {
                TreeMap<Integer, Choice> more = new TreeMap<>(bySigns);
                for (Map.Entry<Integer, Choice> entry : bySigns.entrySet()) {
                    int signs = entry.getKey() + 1 + clauses.get(k).length();
                    List<Integer> numbers = new ArrayList<>(entry.getValue().numbers);
                    numbers.add(k);
                    Choice choice = new Choice(entry.getValue().weight + weight(all.get(k)), numbers);
                    if (signs <= room && (!more.containsKey(signs) || isBetter(choice, more.get(signs)))) {
                        more.put(signs, choice);
                    }
                }
                bySigns = more;
            }
        }
        Choice best = bySigns.get(0);
        for (Choice choice : bySigns.values()) {
            best = choice.weight > best.weight ? choice : best;
        }
        return new ArrayList<>(best.numbers);
    }

    /** Of two that need the same. */
    private static boolean isBetter(Choice one, Choice other) {
        if (one.weight != other.weight) {
            return one.weight > other.weight;
        }
        for (int k = 0; k < 432; k++) {
            if (one.numbers.contains(k) != other.numbers.contains(k)) {
                return one.numbers.contains(k);
            }
        }
        return false;
    }

    int sign(int k) {
        return k < 0 || k >= text.length() ? -1 : text.charAt(k);
    }

    int told(int k) {
        return k < 0 || k >= told.size() ? -1 : told.get(k);
    }

    int held(int n) {
        if (n < 0 || n > tape.length()) {
            return -10000;
        }
        String read = tape.substring(0, n);
        tape = "";
        Pattern pattern = Pattern.compile(
            " *([a-z]+(?: *, *[a-z]+)*?)(?: +but +([a-z]+(?: *, *[a-z]+)*))? *: *([a-z]+) *([0-9]+) *- *([0-9]+) *\\.");
        Matcher matcher = pattern.matcher(read);
        int at = 0;
        int clauses = 0;
        while (!read.substring(at).matches(" *")) {
            matcher.region(at, n);
            if (!matcher.lookingAt() || !isTrue(matcher)) {
                while (read.charAt(at) == ' ') {
                    at++;
                }
                return -1 - at;
            }
            at = matcher.end();
            clauses++;
        }
        return clauses;
    }

    private boolean isTrue(Matcher clause) {
        int left = 0;
        for (String name : clause.group(1).split(" *, *")) {
            if (placesOf(name) == 0) {
                return false;
            }
            left |= placesOf(name);
        }
        if (clause.group(2) != null) {
            for (String name : clause.group(2).split(" *, *")) {
                if (!places.contains(name)) {
                    return false;
                }
                left &= ~placesOf(name);
            }
        }
        java.math.BigInteger from = new java.math.BigInteger(clause.group(4));
        java.math.BigInteger to = new java.math.BigInteger(clause.group(5));
        if (left == 0 || from.compareTo(to) > 0 || to.compareTo(java.math.BigInteger.valueOf(23)) > 0) {
            return false;
        }
        for (int band = 0; band < bands.size(); band++) {
            if (bands.get(band).word.equals(clause.group(3))) {
                return isAll(band, left, from.intValue(), to.intValue());
            }
        }
        return false;
    }

    private boolean isAll(int band, int set, int from, int to) {
        boolean all = true;
        for (int place = 0; place < places.size(); place++) {
            for (int hour = from; hour <= to && (set >> place & 1) == 1; hour++) {
                all &= isIn(band, place, hour);
            }
        }
        return all;
    }

    void next() {
        before = now;
        now = missing();
    }

    int changed(int quantity, int step) {
        if (quantity < 0 || quantity > 2 || step < 0) {
            return -1;
        }
        int set = 0;
        for (int place = 0; place < 6; place++) {
            for (int hour = 0; hour < 24; hour++) {
                int a = before[quantity][place][hour];
                int b = now[quantity][place][hour];
                if (a != -100 && b != -100 && (a - b > step || b - a > step)) {
                    set |= 1 << place;
                }
            }
        }
        return set;
    }

    int count(int what) {
        return switch (what) {
            case 0 -> places.size();
            case 1 -> regions.size();
            case 2 -> bands.size();
            case 3 -> findings().size();
            case 4 -> (int) findings().stream().filter(it -> bands.get(it.band).warning).count();
            case 5 -> told.size();
            case 6 -> toldWeight;
            default -> -1;
        };
    }
}
