import java.util.Arrays;
import java.util.NoSuchElementException;

/**
 * Tells the weather of a day: tables of numbers by quantity, place and hour are turned into short
 * texts, and texts are held against the table. The words in capitals are those of the document.
 */
public final class WeatherTeller {
    public static final int NONE = -1;

    private static final int NOT_SO_MANY = -2;
    private static final int NOT_SO_MANY_HELD = -10000;

    private static final int TAPE_MOST = 1000;
    private static final int FEED_BYTES = 20;
    private static final int QUANTITIES = 3;
    private static final int PLACES_MOST = 6;
    private static final int REGIONS_MOST = 5;
    private static final int NAMES_MOST = PLACES_MOST + REGIONS_MOST;
    private static final int BANDS_MOST = 24;
    private static final int GRADE_MOST = 9;
    private static final int HOURS = 24;
    private static final int CELLS = QUANTITIES * PLACES_MOST * HOURS;
    private static final int NUMBER_LEAST = -99;
    private static final int NUMBER_MOST = 999;
    private static final int STEP_MOST = 99;
    private static final int MISSING = -100;
    private static final int ROOM_MOST = 400;

    // Every FINDING has a cell of the table that no other has.
    private static final int FINDINGS_MOST = CELLS;

    // A FINDING needs at most 17 signs for each of its cells' names and 22 signs beside them.
    private static final int SIGNS_MOST = 20000;
    private static final int CLAUSE_SIGNS = 128;

    private static final int FAULT_TOKEN = 1;
    private static final int FAULT_TOO_MUCH = 2;
    private static final int FAULT_TOLD_ALREADY = 3;
    private static final int FAULT_NOT_THERE = 4;
    private static final int FAULT_BOUNDS = 5;

    private static final int BLANK = 32;
    private static final int LINE_END = 10;
    private static final int LETTERS_MOST = 12;
    private static final int LETTER_BITS = 5;
    private static final int LETTER_MASK = 31;
    private static final int BEFORE_LETTERS = 96;
    private static final long NO_WORD = 0L;

    private final Tape tape = new Tape();
    private final RulesReader rulesReader = new RulesReader();
    private final ClauseReader clauseReader = new ClauseReader();
    private final Groups groups = new Groups();
    private final Findings findings = new Findings();
    private final Chooser chooser = new Chooser();
    private final Text text = new Text();
    private final Signs clause = new Signs(CLAUSE_SIGNS);

    // Two of each, which change places: nothing new is made by a call.
    private Rules rules = new Rules();
    private Rules draft = new Rules();
    private Table now = new Table();
    private Table before = new Table();

    private boolean findingsKnown = true;

    public WeatherTeller() {
    }

    public int feed(int a, int b, int c, int d, int e) {
        if (tape.length + FEED_BYTES > TAPE_MOST) {
            return NONE;
        }
        tape.append(a);
        tape.append(b);
        tape.append(c);
        tape.append(d);
        tape.append(e);
        return tape.length;
    }

    public int rules(int n) {
        if (!tape.open(n)) {
            return NOT_SO_MANY;
        }
        rulesReader.read(tape, draft);
        if (rulesReader.faultKind != 0) {
            return NONE;
        }
        Rules old = rules;
        rules = draft;
        draft = old;
        groups.join(rules);
        now.clear();
        before.clear();
        text.clear();
        findingsKnown = false;
        return rules.bands;
    }

    public int fault(int what) {
        switch (what) {
            case 0:
                return rulesReader.faultKind;
            case 1:
                return rulesReader.faultPlace;
            default:
                return NONE;
        }
    }

    public boolean put(int quantity, int place, int from, int to, int v, int step) {
        if (!hasHours(quantity, place, from, to) || !staysInSpan(v, step, to - from)) {
            return false;
        }
        for (int hour = from; hour <= to; hour++) {
            now.set(quantity, place, hour, v + (hour - from) * step);
        }
        findingsKnown = false;
        return true;
    }

    public boolean miss(int quantity, int place, int from, int to) {
        if (!hasHours(quantity, place, from, to)) {
            return false;
        }
        for (int hour = from; hour <= to; hour++) {
            now.set(quantity, place, hour, MISSING);
        }
        findingsKnown = false;
        return true;
    }

    public int number(int quantity, int place, int hour) {
        return now.at(quantity, place, hour);
    }

    public int finding(int k, int what) throws IndexOutOfBoundsException, NoSuchElementException {
        knowFindings();
        if (k < 0 || k >= findings.size) {
            throw new IndexOutOfBoundsException("no such finding");
        }
        switch (what) {
            case 0:
                return findings.bands[k];
            case 1:
                return findings.froms[k];
            case 2:
                return findings.tos[k];
            case 3:
                return findings.places[k];
            case 4:
                return weightOf(k);
            case 5:
                return isWarning(k) ? 1 : 0;
            case 6:
                return clauseLength(k);
            case 7:
                return groups.namesOf(findings.places[k]);
            case 8:
                return groups.takenOutOf(findings.places[k]);
            default:
                throw new NoSuchElementException("no such what");
        }
    }

    public int tell(int room) {
        if (room < 0 || room > ROOM_MOST) {
            return NONE;
        }
        knowFindings();
        text.clear();
        chooser.clear();
        int used = 0;
        for (int k = 0; k < findings.size; k++) {
            int signs = clauseLength(k) + 1;
            if (isWarning(k)) {
                text.append(k, weightOf(k));
                used += signs;
            } else {
                chooser.offer(k, signs, weightOf(k));
            }
        }
        // The first WARNING has no blank ahead; without one, all the others' blanks count.
        chooser.choose(text.size == 0 ? room : room - used + 1);
        takeChosen(text.size);
        writeText();
        return text.signs.length;
    }

    public int sign(int k) {
        return text.signs.at(k);
    }

    public int told(int k) {
        return k < 0 || k >= text.size ? NONE : text.numbers[k];
    }

    public int held(int n) {
        if (!tape.open(n)) {
            return NOT_SO_MANY_HELD;
        }
        tape.skip(BLANK);
        int clauses = 0;
        while (clauses < TAPE_MOST && !tape.isAtEnd()) {
            int start = tape.at;
            if (!clauseReader.read(tape, rules) || !isTrue(clauseReader)) {
                return -1 - start;
            }
            clauses++;
            tape.skip(BLANK);
        }
        return clauses;
    }

    public void next() {
        Table old = before;
        before = now;
        now = old;
        now.clear();
        findingsKnown = false;
    }

    public int changed(int quantity, int step) {
        if (quantity < 0 || quantity >= QUANTITIES || step < 0) {
            return NONE;
        }
        int places = 0;
        for (int place = 0; place < rules.places; place++) {
            if (differs(quantity, place, step)) {
                places |= 1 << place;
            }
        }
        return places;
    }

    public int count(int what) {
        switch (what) {
            case 0:
                return rules.places;
            case 1:
                return rules.regions;
            case 2:
                return rules.bands;
            case 3:
                knowFindings();
                return findings.size;
            case 4:
                knowFindings();
                return warningsFound();
            case 5:
                return text.size;
            case 6:
                return text.weight;
            default:
                return NONE;
        }
    }

    private static boolean isWithin(int number, int least, int most) {
        return number >= least && number <= most;
    }

    private static boolean hasBit(int bits, int k) {
        return ((bits >> k) & 1) != 0;
    }

    private boolean hasHours(int quantity, int place, int from, int to) {
        return isWithin(quantity, 0, QUANTITIES - 1) && isWithin(place, 0, rules.places - 1)
            && from >= 0 && from <= to && to < HOURS;
    }

    /** The numbers between the first and the last lie between these two. */
    private static boolean staysInSpan(int v, int step, int steps) {
        return isWithin(step, -STEP_MOST, STEP_MOST) && isWithin(v, NUMBER_LEAST, NUMBER_MOST)
            && isWithin(v + steps * step, NUMBER_LEAST, NUMBER_MOST);
    }

    private void knowFindings() {
        if (!findingsKnown) {
            findings.find(rules, now);
            findingsKnown = true;
        }
    }

    private int weightOf(int k) {
        int hours = findings.tos[k] - findings.froms[k] + 1;
        return rules.grades[findings.bands[k]] * Integer.bitCount(findings.places[k]) * hours;
    }

    private boolean isWarning(int k) {
        return rules.warnings[findings.bands[k]];
    }

    private int warningsFound() {
        int found = 0;
        for (int k = 0; k < findings.size; k++) {
            if (isWarning(k)) {
                found++;
            }
        }
        return found;
    }

    private int clauseLength(int k) {
        clause.clear();
        writeClause(k, clause);
        return clause.length;
    }

    private void writeClause(int k, Signs out) {
        int places = findings.places[k];
        writeNames(groups.namesOf(places), out);
        int takenOut = groups.takenOutOf(places);
        if (takenOut != 0) {
            out.addAll(" but ");
            writeNames(takenOut, out);
        }
        out.addAll(": ");
        out.addWord(rules.words[findings.bands[k]]);
        out.add(BLANK);
        out.addHour(findings.froms[k]);
        out.add('-');
        out.addHour(findings.tos[k]);
        out.add('.');
    }

    private void writeNames(int names, Signs out) {
        boolean first = true;
        for (int name = 0; name < rules.places + rules.regions; name++) {
            if (hasBit(names, name)) {
                if (!first) {
                    out.addAll(", ");
                }
                out.addWord(rules.wordOfName(name));
                first = false;
            }
        }
    }

    /** Puts the chosen FINDINGS behind the WARNINGS, each behind all that go before it. */
    private void takeChosen(int warnings) {
        for (int item = 0; item < chooser.size; item++) {
            if (chooser.chosen[item]) {
                int k = chooser.numbers[item];
                text.append(k, chooser.weights[item]);
                int at = text.size - 1;
                while (at > warnings && goesAhead(k, text.numbers[at - 1])) {
                    text.numbers[at] = text.numbers[at - 1];
                    at--;
                }
                text.numbers[at] = k;
            }
        }
    }

    /** Of two FINDINGS, k the later one by number. */
    private boolean goesAhead(int k, int other) {
        int weight = weightOf(k);
        int otherWeight = weightOf(other);
        if (weight != otherWeight) {
            return weight > otherWeight;
        }
        return findings.froms[k] < findings.froms[other];
    }

    private void writeText() {
        for (int i = 0; i < text.size; i++) {
            if (i > 0) {
                text.signs.add(BLANK);
            }
            writeClause(text.numbers[i], text.signs);
        }
    }

    private boolean isTrue(ClauseReader read) {
        if (read.places == 0 || read.from > read.to || read.to >= HOURS) {
            return false;
        }
        for (int place = 0; place < rules.places; place++) {
            if (hasBit(read.places, place) && !isInBand(place, read)) {
                return false;
            }
        }
        return true;
    }

    private boolean isInBand(int place, ClauseReader read) {
        for (int hour = read.from; hour <= read.to; hour++) {
            if (!rules.isIn(read.band, now.at(rules.quantities[read.band], place, hour))) {
                return false;
            }
        }
        return true;
    }

    private boolean differs(int quantity, int place, int step) {
        for (int hour = 0; hour < HOURS; hour++) {
            int one = before.at(quantity, place, hour);
            int other = now.at(quantity, place, hour);
            if (one != MISSING && other != MISSING && Math.abs(one - other) > step) {
                return true;
            }
        }
        return false;
    }

    /** A word of at most 12 letters as one number, five bits a letter. */
    private static long wordOf(String letters) {
        long word = NO_WORD;
        for (int i = 0; i < letters.length(); i++) {
            word = (word << LETTER_BITS) | (letters.charAt(i) - BEFORE_LETTERS);
        }
        return word;
    }

    /** The bytes fed, and the text among them that is read. */
    private static final class Tape {
        // Above every number that is in a span, and far from an overflow.
        private static final int LARGE = 100000;

        private final byte[] bytes = new byte[TAPE_MOST];
        int length = 0;
        int at = 0;
        private int end = 0;

        void append(int four) {
            for (int shift = 24; shift >= 0; shift -= 8) {
                if (length < bytes.length) {
                    bytes[length] = (byte) (four >> shift);
                    length++;
                }
            }
        }

        /** The first n bytes become the text to read; they stay until others are fed. */
        boolean open(int n) {
            if (n < 0 || n > length) {
                return false;
            }
            at = 0;
            end = n;
            length = 0;
            return true;
        }

        boolean isAtEnd() {
            return at >= end;
        }

        int look() {
            return at >= 0 && at < end && at < bytes.length ? bytes[at] & 255 : NONE;
        }

        /** Passes blanks and, where they are blanks too, signs of another kind. */
        void skip(int other) {
            while (at < end && (look() == BLANK || look() == other)) {
                at++;
            }
        }

        boolean take(int sign) {
            if (look() != sign) {
                return false;
            }
            at++;
            return true;
        }

        /** All letters that come; NO_WORD if there is none or there are too many. */
        long takeWord() {
            long word = NO_WORD;
            int letters = 0;
            while (at < end && isWithin(look(), 'a', 'z')) {
                word = (word << LETTER_BITS) | (look() - BEFORE_LETTERS);
                letters++;
                at++;
            }
            return letters > LETTERS_MOST ? NO_WORD : word;
        }

        /** All digits that come, LARGE at most; NONE if there is none. */
        int takeDigits() {
            int value = NONE;
            while (at < end && isWithin(look(), '0', '9')) {
                value = Math.min(LARGE, Math.max(value, 0) * 10 + look() - '0');
                at++;
            }
            return value;
        }
    }

    /** The RULES as told. */
    private static final class Rules {
        final long[] placeNames = new long[PLACES_MOST];
        final long[] regionNames = new long[REGIONS_MOST];
        final int[] regionPlaces = new int[REGIONS_MOST];
        final long[] words = new long[BANDS_MOST];
        final int[] quantities = new int[BANDS_MOST];
        final int[] lows = new int[BANDS_MOST];
        final int[] highs = new int[BANDS_MOST];
        final int[] grades = new int[BANDS_MOST];
        final boolean[] warnings = new boolean[BANDS_MOST];
        int places = 0;
        int regions = 0;
        int bands = 0;

        void clear() {
            places = 0;
            regions = 0;
            bands = 0;
        }

        void addPlace(long name) {
            if (places < PLACES_MOST) {
                placeNames[places] = name;
                places++;
            }
        }

        void addRegion(long name, int itsPlaces) {
            if (regions < REGIONS_MOST) {
                regionNames[regions] = name;
                regionPlaces[regions] = itsPlaces;
                regions++;
            }
        }

        void addBand(int quantity, long word, int low, int high, int grade, boolean warning) {
            if (bands < BANDS_MOST) {
                quantities[bands] = quantity;
                words[bands] = word;
                lows[bands] = low;
                highs[bands] = high;
                grades[bands] = grade;
                warnings[bands] = warning;
                bands++;
            }
        }

        /** The PLACE of that name as a bit, 0 if there is none. */
        int placeNamed(long name) {
            for (int place = 0; place < places; place++) {
                if (placeNames[place] == name) {
                    return 1 << place;
                }
            }
            return 0;
        }

        /** The PLACES of that NAME, which has one at least; 0 if the NAME isn't there. */
        int placesNamed(long name) {
            for (int region = 0; region < regions; region++) {
                if (regionNames[region] == name) {
                    return regionPlaces[region];
                }
            }
            return placeNamed(name);
        }

        int bandNamed(long word) {
            for (int band = 0; band < bands; band++) {
                if (words[band] == word) {
                    return band;
                }
            }
            return NONE;
        }

        /** MISSING is below every BAND. */
        boolean isIn(int band, int number) {
            return number >= lows[band] && number < highs[band];
        }

        boolean overlaps(int quantity, int low, int high) {
            for (int band = 0; band < bands; band++) {
                if (quantities[band] == quantity && low < highs[band] && lows[band] < high) {
                    return true;
                }
            }
            return false;
        }

        /** NAMES are numbered PLACES first, then REGIONS. */
        long wordOfName(int name) {
            if (name < 0 || name >= places + regions) {
                return NO_WORD;
            }
            return name < places ? placeNames[name] : regionNames[name - places];
        }

        int placesOfName(int name) {
            if (name < 0 || name >= places + regions) {
                return 0;
            }
            return name < places ? 1 << name : regionPlaces[name - places];
        }
    }

    /** Reads a TEXT of RULES; the FAULT met first stays, whatever comes behind it. */
    private static final class RulesReader {
        private final long placeWord = wordOf("place");
        private final long regionWord = wordOf("region");
        private final long bandWord = wordOf("band");
        private final long warnWord = wordOf("warn");
        private final long butWord = wordOf("but");
        int faultKind = 0;
        int faultPlace = NONE;
        private int wordPlace = 0;

        void read(Tape tape, Rules into) {
            faultKind = 0;
            faultPlace = NONE;
            into.clear();
            tape.skip(LINE_END);
            for (int i = 0; i < TAPE_MOST && faultKind == 0 && !tape.isAtEnd(); i++) {
                int start = tape.at;
                long word = tape.takeWord();
                if (word == placeWord) {
                    readPlace(tape, into, start);
                } else if (word == regionWord) {
                    readRegion(tape, into, start);
                } else if (word == bandWord) {
                    readBand(tape, into, start);
                } else {
                    fail(FAULT_TOKEN, start);
                }
                tape.skip(LINE_END);
            }
        }

        private void readPlace(Tape tape, Rules into, int start) {
            if (into.places >= PLACES_MOST) {
                fail(FAULT_TOO_MUCH, start);
            }
            long name = readNewName(tape, into);
            readSign(tape, ';');
            if (faultKind == 0) {
                into.addPlace(name);
            }
        }

        private void readRegion(Tape tape, Rules into, int start) {
            if (into.regions >= REGIONS_MOST) {
                fail(FAULT_TOO_MUCH, start);
            }
            long name = readNewName(tape, into);
            readSign(tape, '=');
            int places = 0;
            boolean more = true;
            for (int i = 0; i < TAPE_MOST && more && faultKind == 0; i++) {
                places |= readToldName(tape, into);
                tape.skip(LINE_END);
                more = tape.take(',');
            }
            readSign(tape, ';');
            if (faultKind == 0) {
                into.addRegion(name, places);
            }
        }

        private void readBand(Tape tape, Rules into, int start) {
            if (into.bands >= BANDS_MOST) {
                fail(FAULT_TOO_MUCH, start);
            }
            int quantity = readNumber(tape, 0, QUANTITIES - 1);
            long word = readNewWord(tape, into);
            tape.skip(LINE_END);
            int lowPlace = tape.at;
            int low = readNumber(tape, NUMBER_LEAST, NUMBER_MOST);
            int high = readNumber(tape, NUMBER_LEAST, NUMBER_MOST);
            if (high <= low || into.overlaps(quantity, low, high)) {
                fail(FAULT_BOUNDS, lowPlace);
            }
            int grade = readNumber(tape, 1, GRADE_MOST);
            boolean warning = readWarn(tape);
            readSign(tape, ';');
            if (faultKind == 0) {
                into.addBand(quantity, word, low, high, grade, warning);
            }
        }

        private void fail(int kind, int place) {
            if (faultKind == 0) {
                faultKind = kind;
                faultPlace = place;
            }
        }

        private void readSign(Tape tape, int sign) {
            tape.skip(LINE_END);
            if (!tape.take(sign)) {
                fail(FAULT_TOKEN, tape.at);
            }
        }

        private int readNumber(Tape tape, int least, int most) {
            tape.skip(LINE_END);
            int start = tape.at;
            boolean minus = tape.take('-');
            int digits = tape.takeDigits();
            int value = minus ? -digits : digits;
            if (digits == NONE) {
                fail(FAULT_TOKEN, start);
            } else if (!isWithin(value, least, most)) {
                fail(FAULT_TOO_MUCH, start);
            }
            return value;
        }

        private boolean readWarn(Tape tape) {
            tape.skip(LINE_END);
            if (!isWithin(tape.look(), 'a', 'z')) {
                return false;
            }
            int start = tape.at;
            if (tape.takeWord() != warnWord) {
                fail(FAULT_TOKEN, start);
            }
            return true;
        }

        private long readNewName(Tape tape, Rules into) {
            long name = readFreeWord(tape);
            if (into.placesNamed(name) != 0) {
                fail(FAULT_TOLD_ALREADY, wordPlace);
            }
            return name;
        }

        private int readToldName(Tape tape, Rules into) {
            int places = into.placesNamed(readFreeWord(tape));
            if (places == 0) {
                fail(FAULT_NOT_THERE, wordPlace);
            }
            return places;
        }

        private long readNewWord(Tape tape, Rules into) {
            long word = readFreeWord(tape);
            if (into.bandNamed(word) != NONE) {
                fail(FAULT_TOLD_ALREADY, wordPlace);
            }
            return word;
        }

        /** A word that is none of those that the RULES and CLAUSES keep for themselves. */
        private long readFreeWord(Tape tape) {
            tape.skip(LINE_END);
            wordPlace = tape.at;
            long word = tape.takeWord();
            if (word == NO_WORD || word == placeWord || word == regionWord || word == bandWord
                || word == warnWord || word == butWord) {
                fail(FAULT_TOKEN, wordPlace);
            }
            return word;
        }
    }

    /** Reads one CLAUSE of a text that is HELD, and keeps what it says. */
    private static final class ClauseReader {
        private final long butWord = wordOf("but");
        int places = 0;
        int band = NONE;
        int from = NONE;
        int to = NONE;

        /** Whether it is a CLAUSE. */
        boolean read(Tape tape, Rules rules) {
            return readPlaces(tape, rules) && readBand(tape, rules) && readHours(tape);
        }

        private boolean readPlaces(Tape tape, Rules rules) {
            places = readNames(tape, rules, true);
            if (places == 0) {
                return false;
            }
            if (readSign(tape, ':')) {
                return true;
            }
            if (tape.takeWord() != butWord) {
                return false;
            }
            int takenOut = readNames(tape, rules, false);
            places &= ~takenOut;
            return takenOut != 0 && readSign(tape, ':');
        }

        /** The PLACES of NAMES with commas between; 0 if one isn't there. */
        private int readNames(Tape tape, Rules rules, boolean withRegions) {
            int joined = 0;
            boolean more = true;
            for (int i = 0; i < TAPE_MOST && more; i++) {
                tape.skip(BLANK);
                long name = tape.takeWord();
                int named = withRegions ? rules.placesNamed(name) : rules.placeNamed(name);
                if (named == 0) {
                    return 0;
                }
                joined |= named;
                more = readSign(tape, ',');
            }
            return joined;
        }

        private boolean readBand(Tape tape, Rules rules) {
            tape.skip(BLANK);
            band = rules.bandNamed(tape.takeWord());
            return band != NONE;
        }

        private boolean readHours(Tape tape) {
            tape.skip(BLANK);
            from = tape.takeDigits();
            if (from == NONE || !readSign(tape, '-')) {
                return false;
            }
            tape.skip(BLANK);
            to = tape.takeDigits();
            return to != NONE && readSign(tape, '.');
        }

        private boolean readSign(Tape tape, int sign) {
            tape.skip(BLANK);
            return tape.take(sign);
        }
    }

    /** A TABLE: numbers by QUANTITY, PLACE and HOUR. */
    private static final class Table {
        private final int[] cells = new int[CELLS];

        Table() {
            Arrays.fill(cells, MISSING);
        }

        void clear() {
            Arrays.fill(cells, MISSING);
        }

        int at(int quantity, int place, int hour) {
            int cell = cellOf(quantity, place, hour);
            return cell == NONE ? MISSING : cells[cell];
        }

        void set(int quantity, int place, int hour, int number) {
            int cell = cellOf(quantity, place, hour);
            if (cell != NONE) {
                cells[cell] = number;
            }
        }

        private static int cellOf(int quantity, int place, int hour) {
            if (!isWithin(quantity, 0, QUANTITIES - 1) || !isWithin(place, 0, PLACES_MOST - 1)
                || !isWithin(hour, 0, HOURS - 1)) {
                return NONE;
            }
            return (quantity * PLACES_MOST + place) * HOURS + hour;
        }
    }

    /** The GROUP of every set of PLACES, sought when it is asked for first. */
    private static final class Groups {
        private static final int NOT_SOUGHT = 0;

        private final int[] joined = new int[1 << NAMES_MOST];
        private final int[] best = new int[1 << PLACES_MOST];
        private int sets = 1;

        /** The PLACES of each set of NAMES. */
        void join(Rules rules) {
            sets = 1;
            for (int name = 0; name < rules.places + rules.regions; name++) {
                int places = rules.placesOfName(name);
                for (int set = 0; set < sets && sets + set < joined.length; set++) {
                    joined[sets + set] = joined[set] | places;
                }
                sets = Math.min(sets * 2, joined.length);
            }
            Arrays.fill(best, NOT_SOUGHT);
        }

        int namesOf(int places) {
            if (places <= 0 || places >= best.length) {
                return 0;
            }
            if (best[places] == NOT_SOUGHT) {
                best[places] = seek(places);
            }
            return best[places];
        }

        int takenOutOf(int places) {
            return joined[namesOf(places)] & ~places;
        }

        /** The sets go up, so of several with as few the least stays. */
        private int seek(int places) {
            int found = NOT_SOUGHT;
            int fewest = NAMES_MOST + PLACES_MOST + 1;
            for (int set = 1; set < sets; set++) {
                if ((joined[set] & places) == places) {
                    int needed = Integer.bitCount(set) + Integer.bitCount(joined[set] & ~places);
                    if (needed < fewest) {
                        fewest = needed;
                        found = set;
                    }
                }
            }
            return found;
        }
    }

    /** The FINDINGS of a TABLE, in order. */
    private static final class Findings {
        final int[] bands = new int[FINDINGS_MOST];
        final int[] froms = new int[FINDINGS_MOST];
        final int[] tos = new int[FINDINGS_MOST];
        final int[] places = new int[FINDINGS_MOST];
        int size = 0;

        private final int[] hoursIn = new int[PLACES_MOST];
        private final int[] placesByEnd = new int[HOURS];

        void find(Rules rules, Table table) {
            size = 0;
            for (int band = 0; band < rules.bands; band++) {
                for (int place = 0; place < rules.places; place++) {
                    hoursIn[place] = seekHours(rules, table, band, place);
                }
                for (int from = 0; from < HOURS; from++) {
                    findFrom(rules.places, band, from);
                }
            }
        }

        /** The HOURS, as bits, in which a PLACE is IN a BAND. */
        private static int seekHours(Rules rules, Table table, int band, int place) {
            int hours = 0;
            for (int hour = 0; hour < HOURS; hour++) {
                if (rules.isIn(band, table.at(rules.quantities[band], place, hour))) {
                    hours |= 1 << hour;
                }
            }
            return hours;
        }

        private void findFrom(int placesTold, int band, int from) {
            boolean found = false;
            for (int place = 0; place < placesTold; place++) {
                int begins = hoursIn[place] & ~(hoursIn[place] << 1);
                if (hasBit(begins, from)) {
                    placesByEnd[endOf(hoursIn[place], from)] |= 1 << place;
                    found = true;
                }
            }
            for (int to = from; to < HOURS && found; to++) {
                if (placesByEnd[to] != 0) {
                    append(band, from, to, placesByEnd[to]);
                    placesByEnd[to] = 0;
                }
            }
        }

        private static int endOf(int hours, int from) {
            int to = from;
            while (to + 1 < HOURS && hasBit(hours, to + 1)) {
                to++;
            }
            return to;
        }

        private void append(int band, int from, int to, int itsPlaces) {
            if (size < FINDINGS_MOST) {
                bands[size] = band;
                froms[size] = from;
                tos[size] = to;
                places[size] = itsPlaces;
                size++;
            }
        }
    }

    /** Of items that need room and have a weight, chooses those that are worth most together. */
    private static final class Chooser {
        // A weight above all that fewer signs could make up for.
        private static final int WEIGHT_WORTH = 512;
        private static final int WORD_BITS = 32;
        private static final int ROOM_WORDS = ROOM_MOST / WORD_BITS + 1;

        final int[] numbers = new int[FINDINGS_MOST];
        final int[] weights = new int[FINDINGS_MOST];
        final boolean[] chosen = new boolean[FINDINGS_MOST];
        int size = 0;

        private final int[] signs = new int[FINDINGS_MOST];
        private final int[] best = new int[ROOM_MOST + 1];
        private final int[] taken = new int[FINDINGS_MOST * ROOM_WORDS];

        void clear() {
            size = 0;
        }

        void offer(int number, int itsSigns, int weight) {
            if (size < FINDINGS_MOST) {
                numbers[size] = number;
                signs[size] = itsSigns;
                weights[size] = weight;
                chosen[size] = false;
                size++;
            }
        }

        /** From the last item to the first: what it and those behind it are worth in each room. */
        void choose(int room) {
            if (room < 0 || room > ROOM_MOST) {
                return;
            }
            Arrays.fill(best, 0);
            Arrays.fill(taken, 0);
            for (int item = size - 1; item >= 0; item--) {
                weigh(item, room);
            }
            int left = room;
            for (int item = 0; item < size; item++) {
                chosen[item] = isTaken(item, left);
                if (chosen[item]) {
                    left -= signs[item];
                }
            }
        }

        /** An item is taken if it makes no difference: so of several sets the first item tells. */
        private void weigh(int item, int most) {
            int need = signs[item];
            int worth = weights[item] * WEIGHT_WORTH - need;
            for (int room = most; room >= need; room--) {
                int with = best[room - need] + worth;
                if (with >= best[room]) {
                    best[room] = with;
                    taken[item * ROOM_WORDS + room / WORD_BITS] |= 1 << room % WORD_BITS;
                }
            }
        }

        private boolean isTaken(int item, int room) {
            return room >= 0 && room <= ROOM_MOST
                && hasBit(taken[item * ROOM_WORDS + room / WORD_BITS], room % WORD_BITS);
        }
    }

    /** The text at hand: the FINDINGS it tells, and its signs. */
    private static final class Text {
        final int[] numbers = new int[FINDINGS_MOST];
        final Signs signs = new Signs(ROOM_MOST);
        int size = 0;
        int weight = 0;

        void clear() {
            size = 0;
            weight = 0;
            signs.clear();
        }

        void append(int number, int itsWeight) {
            if (size < FINDINGS_MOST) {
                numbers[size] = number;
                weight += itsWeight;
                size++;
            }
        }
    }

    /** Signs in a row, which is made longer when WARNINGS need more than a ROOM. */
    private static final class Signs {
        private byte[] row;
        int length = 0;

        Signs(int room) {
            row = new byte[room < 1 ? 1 : room];
        }

        void clear() {
            length = 0;
        }

        int at(int k) {
            return k < 0 || k >= length ? NONE : row[k];
        }

        void add(int sign) {
            if (length >= SIGNS_MOST) {
                return;
            }
            if (length >= row.length) {
                row = Arrays.copyOf(row, 2 * length);
            }
            row[length] = (byte) sign;
            length++;
        }

        void addAll(String signs) {
            for (int i = 0; i < signs.length(); i++) {
                add(signs.charAt(i));
            }
        }

        void addWord(long word) {
            for (int shift = (LETTERS_MOST - 1) * LETTER_BITS; shift >= 0; shift -= LETTER_BITS) {
                int letter = (int) (word >> shift) & LETTER_MASK;
                if (letter != 0) {
                    add(letter + BEFORE_LETTERS);
                }
            }
        }

        void addHour(int hour) {
            if (hour >= 10) {
                add('0' + hour / 10);
            }
            add('0' + hour % 10);
        }
    }
}
