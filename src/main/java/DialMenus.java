import java.util.Arrays;

/**
 * Names on a telephone keypad: their codes, the choices and readings of typed digits, and optimal ordered menus.
 *
 * <p>Every row that a call needs is made in the constructor and used again; only names() makes objects afterwards,
 * one entry for each name that it adds.
 */
public final class DialMenus {
    public static final int NONE = -1, UNKNOWN = -101, OUTSIDE = -102, STATE = -103, FULL = -104;

    private static final int MAX_NAMES = 14;
    private static final int MAX_LETTERS = 8;
    private static final int MAX_FREQUENCY = 99;
    private static final int MAX_INPUT = 10;
    private static final int MAX_TEXT = 50;
    private static final int MIN_WIDTH = 2;
    private static final int MAX_WIDTH = 4;
    private static final int COMPARED_WIDTH = 3;
    // Every step of a path leaves at least one name behind.
    private static final int MAX_STEPS = MAX_NAMES - 1;
    private static final int MAX_SLACK = 100;
    // No int has more decimal digits.
    private static final int MAX_DECIMALS = 10;

    private static final int LETTERS = 26;
    private static final int FIRST_DIGIT = 2;
    private static final int LAST_DIGIT = 9;
    private static final int[] FIRST_KEYPAD = {
        2, 2, 2, 3, 3, 3, 4, 4, 4, 5, 5, 5, 6, 6, 6, 7, 7, 7, 7, 8, 8, 8, 9, 9, 9, 9
    };

    private static final int READINGS_MODULUS = 1000000;
    private static final long DIGEST_START = 1571;

    private final Row text = new Row(MAX_TEXT);
    private final Row input = new Row(MAX_INPUT);
    private final Keypad keypad = new Keypad();
    private final Roster roster = new Roster();
    private final ListReader listReader = new ListReader();
    private final Choices choices = new Choices();
    private final Readings readings = new Readings();
    private final Planner planner = new Planner();
    private Menu present = new Menu();
    private Menu spare = new Menu();
    private boolean hasMenu;
    private int menusMade;
    private int listsRead;
    private int keypadsRead;
    private int namesRemoved;

    public DialMenus() {
    }

    // ---- texts

    public int letter(int code) {
        if (code < 32 || code > 126) {
            return OUTSIDE;
        }
        if (text.isFull()) {
            return FULL;
        }
        text.add(code);
        return text.size();
    }

    public int blank() {
        return text.clear();
    }

    public int fault() {
        return listReader.scan(text);
    }

    public int names() {
        boolean fits = listReader.scan(text) == text.size();
        if (!fits || !listReader.endsWithItem() || isAnyItemKnown()) {
            return STATE;
        }
        int added = listReader.items();
        if (roster.size() + added > MAX_NAMES) {
            return FULL;
        }
        for (int item = 0; item < added; item++) {
            Entry entry = listReader.entryOf(text, item);
            entry.encode(keypad);
            roster.insert(entry);
        }
        text.clear();
        hasMenu = false;
        listsRead++;
        return added;
    }

    private boolean isAnyItemKnown() {
        for (int item = 0; item < listReader.items(); item++) {
            if (roster.contains(text, listReader.startOf(item), listReader.lengthOf(item))) {
                return true;
            }
        }
        return false;
    }

    public int dial() {
        int largest = keypad.read(text);
        if (largest == 0) {
            return STATE;
        }
        roster.encode(keypad);
        text.clear();
        keypadsRead++;
        return largest;
    }

    // ---- names

    public int drop(int name) {
        if (!roster.has(name)) {
            return UNKNOWN;
        }
        roster.remove(name);
        hasMenu = false;
        namesRemoved++;
        return roster.size();
    }

    public int use(int name, int v) {
        if (!roster.has(name)) {
            return UNKNOWN;
        }
        if (v < 1 || v > MAX_FREQUENCY) {
            return OUTSIDE;
        }
        return roster.setFrequency(name, v);
    }

    public int name(int name, int what) {
        if (!roster.has(name)) {
            return UNKNOWN;
        }
        switch (what) {
            case 0:
                return roster.lengthOf(name);
            case 1:
                return roster.frequencyOf(name);
            case 2:
                return choices.twins(roster, name);
            case 3:
                return choices.distinguishingLength(roster, name);
            case 4:
                return choices.presses(roster, name);
            case 5:
                return choices.placeIn(roster, roster.lengthOf(name), name);
            case 6:
                return hasMenu ? present.lengthOf(name) : NONE;
            case 7:
                return planner.planInto(spare, roster, COMPARED_WIDTH).lengthOf(name);
            default:
                return OUTSIDE;
        }
    }

    public int sign(int name, int place) {
        return roster.letterAt(name, place);
    }

    public int digit(int name, int place) {
        return roster.digitAt(name, place);
    }

    public int laid(int code) {
        return keypad.digitOf(code);
    }

    public int about(int what) {
        switch (what) {
            case 0:
                return roster.size();
            case 1:
                return roster.sumOfFrequencies();
            case 2:
                return choices.namesWithTwins(roster);
            case 3:
                return choices.differentCodes(roster);
            case 4:
                return choices.greatestDistinguishingLength(roster);
            case 5:
                return choices.sumOfPresses(roster);
            case 6:
                return roster.sumOfLengths();
            default:
                return OUTSIDE;
        }
    }

    // ---- typed

    public int press(int d) {
        if (d < FIRST_DIGIT || d > LAST_DIGIT) {
            return OUTSIDE;
        }
        if (input.isFull()) {
            return FULL;
        }
        input.add(d);
        return input.size();
    }

    public int back() {
        if (input.size() == 0) {
            return STATE;
        }
        input.removeLast();
        return input.size();
    }

    public int wipe() {
        return input.clear();
    }

    public int typed(int place) {
        return input.get(place);
    }

    public int choice(int place) {
        return choices.listFor(roster, input).get(place);
    }

    public int spelling(int what) {
        readings.study(roster, input);
        return readings.number(what);
    }

    public int piece(int place) {
        readings.study(roster, input);
        return readings.best().get(place);
    }

    // ---- menus

    public int build(int b) {
        if (b < MIN_WIDTH || b > MAX_WIDTH) {
            return OUTSIDE;
        }
        if (roster.size() == 0) {
            return STATE;
        }
        int cost = planner.planInto(spare, roster, b).cost(roster);
        adoptSpare();
        return cost;
    }

    public int tend(int slack) {
        if (!hasMenu) {
            return STATE;
        }
        if (slack < 0 || slack > MAX_SLACK) {
            return OUTSIDE;
        }
        int least = planner.planInto(spare, roster, present.width()).cost(roster);
        if (100 * (present.cost(roster) - least) <= slack * least) {
            return NONE;
        }
        int different = present.differentPaths(spare);
        adoptSpare();
        return different;
    }

    public int path(int name, int step) {
        return hasMenu ? present.stepOf(name, step) : STATE;
    }

    public int leads(int parts) {
        return hasMenu ? present.follow(parts) : STATE;
    }

    public int menu(int what) {
        if (!hasMenu) {
            return STATE;
        }
        switch (what) {
            case 0:
                return present.width();
            case 1:
                return present.cost(roster);
            case 2:
                return planner.planInto(spare, roster, present.width()).cost(roster);
            case 3:
                return present.longestPath();
            case 4:
                return present.branchings();
            case 5:
                return present.partsOfWhole();
            case 6:
                return menusMade;
            default:
                return OUTSIDE;
        }
    }

    private void adoptSpare() {
        Menu old = present;
        present = spare;
        spare = old;
        hasMenu = true;
        menusMade++;
    }

    // ---- what is told of all

    public int count(int what) {
        switch (what) {
            case 0:
                return roster.size();
            case 1:
                return text.size();
            case 2:
                return input.size();
            case 3:
                return listsRead;
            case 4:
                return keypadsRead;
            case 5:
                return namesRemoved;
            default:
                return OUTSIDE;
        }
    }

    public long digest() {
        long h = DIGEST_START;
        for (int code = 'a'; code <= 'z'; code++) {
            h = mix(h, keypad.digitOf(code));
        }
        h = mixNames(h);
        for (int what = 0; what <= 6; what++) {
            h = mix(h, about(what));
        }
        h = mixRow(h, input);
        h = mixRow(h, choices.listFor(roster, input));
        readings.study(roster, input);
        for (int what = 0; what <= 3; what++) {
            h = mix(h, readings.number(what));
        }
        h = mixRow(h, readings.best());
        if (hasMenu) {
            for (int what = 0; what <= 6; what++) {
                h = mix(h, menu(what));
            }
            h = mixPaths(h);
        }
        h = mixRow(h, text);
        for (int what = 0; what <= 5; what++) {
            h = mix(h, count(what));
        }
        return h;
    }

    private long mixNames(long start) {
        long h = start;
        // One plan serves name(.., 7) of all names.
        Menu compared = planner.planInto(spare, roster, COMPARED_WIDTH);
        for (int name = 0; name < roster.size(); name++) {
            int length = roster.lengthOf(name);
            for (int place = 0; place < length; place++) {
                h = mix(h, roster.letterAt(name, place));
            }
            for (int what = 0; what <= 6; what++) {
                h = mix(h, name(name, what));
            }
            h = mix(h, compared.lengthOf(name));
            for (int place = 0; place < length; place++) {
                h = mix(h, roster.digitAt(name, place));
            }
        }
        return h;
    }

    private long mixPaths(long start) {
        long h = start;
        for (int name = 0; name < roster.size(); name++) {
            int length = present.lengthOf(name);
            for (int step = 0; step < length; step++) {
                h = mix(h, present.stepOf(name, step));
            }
        }
        return h;
    }

    private static long mixRow(long start, Row row) {
        long h = start;
        for (int place = 0; place < row.size(); place++) {
            h = mix(h, row.get(place));
        }
        return h;
    }

    private static long mix(long h, int v) {
        return 31 * h + v;
    }

    /** Numbers in a room of fixed size. */
    private static final class Row {
        private final int[] items;
        private int size;

        Row(int room) {
            items = new int[Math.max(room, 0)];
        }

        int size() {
            return size;
        }

        boolean isFull() {
            return size >= items.length;
        }

        // A place that is not there is answered as the document's methods answer it.
        int get(int place) {
            return place >= 0 && place < size ? items[place] : UNKNOWN;
        }

        void add(int item) {
            if (!isFull()) {
                items[size] = item;
                size++;
            }
        }

        void insert(int place, int item) {
            if (isFull() || place < 0 || place > size) {
                return;
            }
            for (int at = size; at > place; at--) {
                items[at] = items[at - 1];
            }
            items[place] = item;
            size++;
        }

        void removeLast() {
            if (size > 0) {
                size--;
            }
        }

        int clear() {
            int had = size;
            size = 0;
            return had;
        }
    }

    /** The digits of the letters. */
    private static final class Keypad {
        private final int[] digits = FIRST_KEYPAD.clone();
        private final int[] draft = new int[LETTERS];

        int digitOf(int letter) {
            return letter >= 'a' && letter <= 'z' ? digits[letter - 'a'] : OUTSIDE;
        }

        /** Answers the size of the largest group, or 0, and then nothing has changed, if the text is not a keypad. */
        int read(Row text) {
            int next = 0;
            int digit = FIRST_DIGIT;
            int inGroup = 0;
            int largest = 0;
            for (int at = 0; at < text.size(); at++) {
                int code = text.get(at);
                if (next < LETTERS && code == 'a' + next) {
                    draft[next] = digit;
                    next++;
                    inGroup++;
                    largest = Math.max(largest, inGroup);
                } else if (code == ',' && inGroup > 0 && digit < LAST_DIGIT) {
                    digit++;
                    inGroup = 0;
                } else {
                    return 0;
                }
            }
            if (next < LETTERS || digit < LAST_DIGIT || inGroup == 0) {
                return 0;
            }
            System.arraycopy(draft, 0, digits, 0, LETTERS);
            return largest;
        }
    }

    /** A name, its code and its frequency. */
    private static final class Entry {
        private final int[] letters;
        private final int[] code;
        private int frequency;

        Entry(Row text, int start, int length, int frequency) {
            int room = Math.max(length, 0);
            letters = new int[room];
            code = new int[room];
            for (int place = 0; place < room; place++) {
                letters[place] = text.get(start + place);
            }
            this.frequency = frequency;
        }

        void encode(Keypad keypad) {
            for (int place = 0; place < letters.length && place < code.length; place++) {
                code[place] = keypad.digitOf(letters[place]);
            }
        }

        int letterAt(int place) {
            return place >= 0 && place < letters.length ? letters[place] : UNKNOWN;
        }

        int digitAt(int place) {
            return place >= 0 && place < code.length ? code[place] : UNKNOWN;
        }

        boolean comesBefore(Entry other) {
            for (int place = 0; place < letters.length && place < other.letters.length; place++) {
                if (letters[place] != other.letters[place]) {
                    return letters[place] < other.letters[place];
                }
            }
            return letters.length < other.letters.length;
        }

        boolean isWritten(Row text, int start, int length) {
            if (length != letters.length) {
                return false;
            }
            for (int place = 0; place < length; place++) {
                if (text.get(start + place) != letters[place]) {
                    return false;
                }
            }
            return true;
        }

        int sharedDigits(Entry other) {
            int shared = 0;
            while (shared < code.length && shared < other.code.length && code[shared] == other.code[shared]) {
                shared++;
            }
            return shared;
        }

        boolean beginsWith(Row digits) {
            for (int place = 0; place < digits.size(); place++) {
                if (digitAt(place) != digits.get(place)) {
                    return false;
                }
            }
            return true;
        }

        boolean isTypedAt(Row digits, int from) {
            for (int place = 0; place < code.length; place++) {
                if (digits.get(from + place) != code[place]) {
                    return false;
                }
            }
            return true;
        }
    }

    /** The names in alphabetical order; a name's number is its place here. */
    private static final class Roster {
        private final Entry[] entries = new Entry[MAX_NAMES];
        private int size;

        int size() {
            return size;
        }

        boolean has(int name) {
            return get(name) != null;
        }

        private Entry get(int name) {
            return name >= 0 && name < size ? entries[name] : null;
        }

        void insert(Entry entry) {
            if (entry == null || size >= MAX_NAMES) {
                return;
            }
            int place = placeOf(entry);
            for (int at = size; at > place; at--) {
                entries[at] = entries[at - 1];
            }
            entries[place] = entry;
            size++;
        }

        private int placeOf(Entry entry) {
            int place = 0;
            for (Entry other : entries) {
                if (other != null && other.comesBefore(entry)) {
                    place++;
                }
            }
            return place;
        }

        void remove(int name) {
            if (!has(name)) {
                return;
            }
            for (int at = name; at + 1 < size; at++) {
                entries[at] = entries[at + 1];
            }
            size--;
            entries[size] = null;
        }

        boolean contains(Row text, int start, int length) {
            for (Entry entry : entries) {
                if (entry != null && entry.isWritten(text, start, length)) {
                    return true;
                }
            }
            return false;
        }

        void encode(Keypad keypad) {
            for (Entry entry : entries) {
                if (entry != null) {
                    entry.encode(keypad);
                }
            }
        }

        /** Answers the previous frequency. */
        int setFrequency(int name, int frequency) {
            Entry entry = get(name);
            if (entry == null) {
                return UNKNOWN;
            }
            int previous = entry.frequency;
            entry.frequency = frequency;
            return previous;
        }

        int frequencyOf(int name) {
            Entry entry = get(name);
            return entry == null ? UNKNOWN : entry.frequency;
        }

        int lengthOf(int name) {
            Entry entry = get(name);
            return entry == null ? UNKNOWN : entry.letters.length;
        }

        int letterAt(int name, int place) {
            Entry entry = get(name);
            return entry == null ? UNKNOWN : entry.letterAt(place);
        }

        int digitAt(int name, int place) {
            Entry entry = get(name);
            return entry == null ? UNKNOWN : entry.digitAt(place);
        }

        int sharedDigits(int one, int other) {
            Entry first = get(one);
            Entry second = get(other);
            return first == null || second == null ? UNKNOWN : first.sharedDigits(second);
        }

        boolean areTwins(int one, int other) {
            Entry first = get(one);
            Entry second = get(other);
            if (first == null || second == null || one == other) {
                return false;
            }
            int length = first.code.length;
            return second.code.length == length && first.sharedDigits(second) == length;
        }

        /** Tells whether one name stands before another in every choice that has both. */
        boolean isAhead(int one, int other) {
            Entry first = get(one);
            Entry second = get(other);
            if (first == null || second == null) {
                return false;
            }
            return first.frequency > second.frequency || first.frequency == second.frequency && one < other;
        }

        boolean beginsWith(int name, Row digits) {
            Entry entry = get(name);
            return entry != null && entry.beginsWith(digits);
        }

        boolean isTypedAt(int name, Row digits, int from) {
            Entry entry = get(name);
            return entry != null && entry.isTypedAt(digits, from);
        }

        int sumOfFrequencies() {
            int sum = 0;
            for (Entry entry : entries) {
                if (entry != null) {
                    sum += entry.frequency;
                }
            }
            return sum;
        }

        int sumOfLengths() {
            int sum = 0;
            for (Entry entry : entries) {
                if (entry != null) {
                    sum += entry.frequency * entry.letters.length;
                }
            }
            return sum;
        }
    }

    /** Reads a text as a list of names, character by character. */
    private static final class ListReader {
        private final int[] starts = new int[MAX_TEXT];
        private final int[] lengths = new int[MAX_TEXT];
        private final int[] frequencies = new int[MAX_TEXT];
        private int items;
        private int start;
        private boolean inFrequency;

        int items() {
            return items;
        }

        int startOf(int item) {
            return item >= 0 && item < items ? starts[item] : 0;
        }

        int lengthOf(int item) {
            return item >= 0 && item < items ? lengths[item] : 0;
        }

        Entry entryOf(Row text, int item) {
            return new Entry(text, startOf(item), lengthOf(item), frequencyOf(item));
        }

        // 0 stands for a frequency of which no digit has been read.
        private int frequencyOf(int item) {
            return item >= 0 && item < items ? frequencies[item] : 0;
        }

        /** Tells whether the text that was scanned last may end where it does. */
        boolean endsWithItem() {
            return inFrequency && frequencyOf(items - 1) > 0;
        }

        /** Answers the place of the first character that does not fit, or the length of the text. */
        int scan(Row text) {
            items = 0;
            start = 0;
            inFrequency = false;
            for (int at = 0; at < text.size(); at++) {
                int code = text.get(at);
                boolean fits = inFrequency ? fitsFrequency(code, at) : fitsName(text, at);
                if (!fits) {
                    return at;
                }
            }
            return text.size();
        }

        private boolean fitsName(Row text, int at) {
            int code = text.get(at);
            if (code == ':') {
                return endsName(text, at);
            }
            return code >= 'a' && code <= 'z' && at - start < MAX_LETTERS;
        }

        private boolean endsName(Row text, int at) {
            int length = at - start;
            if (length == 0 || isListed(text, length) || items >= MAX_TEXT) {
                return false;
            }
            starts[items] = start;
            lengths[items] = length;
            frequencies[items] = 0;
            items++;
            inFrequency = true;
            return true;
        }

        private boolean isListed(Row text, int length) {
            for (int item = 0; item < items; item++) {
                if (lengths[item] == length && isSameText(text, starts[item], length)) {
                    return true;
                }
            }
            return false;
        }

        private boolean isSameText(Row text, int earlier, int length) {
            for (int place = 0; place < length; place++) {
                if (text.get(earlier + place) != text.get(start + place)) {
                    return false;
                }
            }
            return true;
        }

        private boolean fitsFrequency(int code, int at) {
            int frequency = frequencyOf(items - 1);
            if (code == ';' && frequency > 0) {
                inFrequency = false;
                start = at + 1;
                return true;
            }
            if (code < '0' || code > '9' || items == 0) {
                return false;
            }
            // A leading zero leaves the number at 0, which is out of range as a third digit is.
            int longer = 10 * frequency + code - '0';
            if (longer < 1 || longer > MAX_FREQUENCY) {
                return false;
            }
            frequencies[items - 1] = longer;
            return true;
        }
    }

    /** What the codes of the names have in common, and who stands where in the choices. */
    private static final class Choices {
        private final Row listed = new Row(MAX_NAMES);

        /** Answers the choice for these digits, in a row that the next call writes anew. */
        Row listFor(Roster roster, Row digits) {
            listed.clear();
            for (int name = 0; name < roster.size(); name++) {
                if (roster.beginsWith(name, digits)) {
                    listed.insert(placeInList(roster, name), name);
                }
            }
            return listed;
        }

        private int placeInList(Roster roster, int name) {
            int place = listed.size();
            while (place > 0 && roster.isAhead(name, listed.get(place - 1))) {
                place--;
            }
            return place;
        }

        /** Answers the place, from 0, of a name in the choice for the first digits of its own code. */
        int placeIn(Roster roster, int digits, int name) {
            int place = 0;
            for (int other = 0; other < roster.size(); other++) {
                if (roster.isAhead(other, name) && roster.sharedDigits(other, name) >= digits) {
                    place++;
                }
            }
            return place;
        }

        int presses(Roster roster, int name) {
            int least = placeIn(roster, 0, name) + 1;
            for (int digits = 1; digits <= roster.lengthOf(name); digits++) {
                least = Math.min(least, digits + placeIn(roster, digits, name) + 1);
            }
            return least;
        }

        int distinguishingLength(Roster roster, int name) {
            // One digit more than the name shares with any other; none at all if there is no other.
            int length = 0;
            for (int other = 0; other < roster.size(); other++) {
                if (other != name) {
                    length = Math.max(length, roster.sharedDigits(other, name) + 1);
                }
            }
            return length <= roster.lengthOf(name) ? length : NONE;
        }

        int twins(Roster roster, int name) {
            return twinsBelow(roster, roster.size(), name);
        }

        private int twinsBelow(Roster roster, int end, int name) {
            int twins = 0;
            for (int other = 0; other < end; other++) {
                if (roster.areTwins(name, other)) {
                    twins++;
                }
            }
            return twins;
        }

        int namesWithTwins(Roster roster) {
            int number = 0;
            for (int name = 0; name < roster.size(); name++) {
                if (twins(roster, name) > 0) {
                    number++;
                }
            }
            return number;
        }

        int differentCodes(Roster roster) {
            int codes = 0;
            for (int name = 0; name < roster.size(); name++) {
                if (twinsBelow(roster, name, name) == 0) {
                    codes++;
                }
            }
            return codes;
        }

        int greatestDistinguishingLength(Roster roster) {
            int greatest = NONE;
            for (int name = 0; name < roster.size(); name++) {
                greatest = Math.max(greatest, distinguishingLength(roster, name));
            }
            return greatest;
        }

        int sumOfPresses(Roster roster) {
            int sum = 0;
            for (int name = 0; name < roster.size(); name++) {
                sum += roster.frequencyOf(name) * presses(roster, name);
            }
            return sum;
        }
    }

    /** The readings of the input, from its end backwards: each row tells of the input from a place on. */
    private static final class Readings {
        private final int[] all = new int[MAX_INPUT + 1];
        private final int[] fewestDigits = new int[MAX_INPUT + 1];
        private final int[] withFewestDigits = new int[MAX_INPUT + 1];
        private final int[] fewestPieces = new int[MAX_INPUT + 1];
        private final Row best = new Row(MAX_INPUT);

        void study(Roster roster, Row input) {
            int end = Math.min(input.size(), MAX_INPUT);
            all[end] = 1;
            fewestDigits[end] = 0;
            withFewestDigits[end] = 1;
            fewestPieces[end] = 0;
            for (int at = end - 1; at >= 0; at--) {
                studyDigit(at);
                for (int name = 0; name < roster.size(); name++) {
                    if (roster.isTypedAt(name, input, at)) {
                        studyName(at, at + roster.lengthOf(name));
                    }
                }
            }
            layBest(roster, input);
        }

        private void studyDigit(int at) {
            all[at] = all[at + 1];
            fewestDigits[at] = fewestDigits[at + 1] + 1;
            withFewestDigits[at] = withFewestDigits[at + 1];
            fewestPieces[at] = fewestPieces[at + 1] + 1;
        }

        private void studyName(int at, int next) {
            if (!isWithin(at, next)) {
                return;
            }
            all[at] = (all[at] + all[next]) % READINGS_MODULUS;
            if (fewestDigits[next] < fewestDigits[at]) {
                fewestDigits[at] = fewestDigits[next];
                withFewestDigits[at] = withFewestDigits[next];
                fewestPieces[at] = fewestPieces[next] + 1;
            } else if (fewestDigits[next] == fewestDigits[at]) {
                withFewestDigits[at] = (withFewestDigits[at] + withFewestDigits[next]) % READINGS_MODULUS;
                fewestPieces[at] = Math.min(fewestPieces[at], fewestPieces[next] + 1);
            }
        }

        private void layBest(Roster roster, Row input) {
            best.clear();
            int at = 0;
            for (int pieces = 0; pieces < MAX_INPUT && at < input.size(); pieces++) {
                int name = bestNameAt(roster, input, at);
                if (name == NONE) {
                    best.add(-2 - input.get(at));
                    at++;
                } else {
                    best.add(name);
                    at += roster.lengthOf(name);
                }
            }
        }

        private int bestNameAt(Roster roster, Row input, int at) {
            for (int name = 0; name < roster.size(); name++) {
                if (roster.isTypedAt(name, input, at) && keepsBest(at, at + roster.lengthOf(name))) {
                    return name;
                }
            }
            return NONE;
        }

        private boolean keepsBest(int at, int next) {
            return isWithin(at, next)
                && fewestDigits[next] == fewestDigits[at] && fewestPieces[next] + 1 == fewestPieces[at];
        }

        // A name that is typed always ends within the input; this is asked so that no index can be outside the rows.
        private static boolean isWithin(int at, int next) {
            return at >= 0 && at < next && next <= MAX_INPUT;
        }

        Row best() {
            return best;
        }

        int number(int what) {
            switch (what) {
                case 0:
                    return all[0];
                case 1:
                    return fewestDigits[0];
                case 2:
                    return fewestPieces[0];
                case 3:
                    return withFewestDigits[0];
                default:
                    return OUTSIDE;
            }
        }
    }

    /** A menu, held as the paths of its names. */
    private static final class Menu {
        private final int[][] steps = new int[MAX_NAMES][MAX_STEPS];
        private final int[] lengths = new int[MAX_NAMES];
        private final Row wanted = new Row(MAX_DECIMALS);
        private int width;
        private int size;
        private int branchings;

        void start(int newWidth, int newSize) {
            width = newWidth;
            size = Math.max(0, Math.min(newSize, MAX_NAMES));
            branchings = 0;
            Arrays.fill(lengths, 0);
        }

        void addStep(int name, int part) {
            if (has(name) && lengths[name] < MAX_STEPS) {
                steps[name][lengths[name]] = part;
                lengths[name]++;
            }
        }

        void addBranching() {
            branchings++;
        }

        private boolean has(int name) {
            return name >= 0 && name < size;
        }

        int width() {
            return width;
        }

        int branchings() {
            return branchings;
        }

        int lengthOf(int name) {
            return has(name) ? lengths[name] : UNKNOWN;
        }

        int stepOf(int name, int step) {
            return has(name) && step >= 0 && step < lengths[name] ? steps[name][step] : UNKNOWN;
        }

        int cost(Roster roster) {
            int cost = 0;
            for (int name = 0; name < size; name++) {
                cost += roster.frequencyOf(name) * lengths[name];
            }
            return cost;
        }

        int longestPath() {
            int longest = 0;
            for (int name = 0; name < size; name++) {
                longest = Math.max(longest, lengths[name]);
            }
            return longest;
        }

        int partsOfWhole() {
            // The last name is in the last part.
            return Math.max(0, stepOf(size - 1, 0));
        }

        int differentPaths(Menu other) {
            int different = 0;
            for (int name = 0; name < size; name++) {
                if (!hasSamePath(other, name)) {
                    different++;
                }
            }
            return different;
        }

        private boolean hasSamePath(Menu other, int name) {
            // One step further, so that a path that only goes on differs too.
            for (int step = 0; step <= lengths[name]; step++) {
                if (stepOf(name, step) != other.stepOf(name, step)) {
                    return false;
                }
            }
            return true;
        }

        int follow(int parts) {
            if (parts < 0) {
                return UNKNOWN;
            }
            splitDecimals(parts);
            for (int name = 0; name < size; name++) {
                if (beginsAsWanted(name)) {
                    return lengths[name] == wanted.size() ? name : NONE;
                }
            }
            return UNKNOWN;
        }

        // The last digit comes first in the row.
        private void splitDecimals(int parts) {
            wanted.clear();
            int rest = parts;
            for (int decimals = 0; decimals < MAX_DECIMALS && rest > 0; decimals++) {
                wanted.add(rest % 10);
                rest /= 10;
            }
        }

        private boolean beginsAsWanted(int name) {
            int digits = wanted.size();
            for (int step = 0; step < digits; step++) {
                if (stepOf(name, step) != wanted.get(digits - 1 - step)) {
                    return false;
                }
            }
            return true;
        }
    }

    /** Plans the optimal menus for all runs of consecutive names, the short runs first. */
    private static final class Planner {
        private final int[] sumBefore = new int[MAX_NAMES + 1];
        // By the number of parts, then by the run: the least cost within these parts, and the size of the first one.
        // For one part this is the optimal menu of the run itself.
        private final int[][] costs = new int[MAX_WIDTH + 1][MAX_NAMES * MAX_NAMES];
        private final int[][] firstSizes = new int[MAX_WIDTH + 1][MAX_NAMES * MAX_NAMES];
        private final int[] bestParts = new int[MAX_NAMES * MAX_NAMES];

        /** Writes the optimal menu of this width into the menu, and answers it. */
        Menu planInto(Menu menu, Roster roster, int width) {
            int names = Math.min(roster.size(), MAX_NAMES);
            for (int name = 0; name < names; name++) {
                sumBefore[name + 1] = sumBefore[name] + roster.frequencyOf(name);
            }
            for (int size = 1; size <= names; size++) {
                for (int first = 0; first + size <= names; first++) {
                    planRun(first, size, width);
                }
            }
            menu.start(width, names);
            for (int name = 0; name < names; name++) {
                layPath(menu, name, names);
            }
            return menu;
        }

        // What is no run, and never asked for, shares the place of the first one, so that no index can be outside the rows.
        private static int run(int first, int size) {
            boolean isRun = first >= 0 && size >= 1 && size <= MAX_NAMES - first;
            return isRun ? first * MAX_NAMES + size - 1 : 0;
        }

        private int sumOf(int first, int size) {
            boolean isRun = first >= 0 && size >= 1 && size <= MAX_NAMES - first;
            return isRun ? sumBefore[first + size] - sumBefore[first] : 0;
        }

        private void planRun(int first, int size, int width) {
            int run = run(first, size);
            int best = 1;
            costs[1][run] = 0;
            firstSizes[1][run] = size;
            for (int parts = MIN_WIDTH; parts <= MAX_WIDTH && parts <= width && parts <= size; parts++) {
                planParts(parts, first, size);
                // More parts must be really cheaper.
                if (best == 1 || costs[parts][run] < costs[best][run]) {
                    best = parts;
                }
            }
            bestParts[run] = best;
            if (best > 1) {
                costs[1][run] = costs[best][run] + sumOf(first, size);
            }
        }

        private void planParts(int parts, int first, int size) {
            if (parts < MIN_WIDTH || parts > MAX_WIDTH) {
                return;
            }
            int leastCost = 0;
            int leastSize = 0;
            for (int firstSize = 1; firstSize <= size - parts + 1; firstSize++) {
                int cost = costs[1][run(first, firstSize)]
                    + costs[parts - 1][run(first + firstSize, size - firstSize)];
                if (leastSize == 0 || cost < leastCost) {
                    leastCost = cost;
                    leastSize = firstSize;
                }
            }
            costs[parts][run(first, size)] = leastCost;
            firstSizes[parts][run(first, size)] = leastSize;
        }

        private int firstSizeOf(int parts, int first, int size) {
            return parts >= 1 && parts <= MAX_WIDTH ? firstSizes[parts][run(first, size)] : size;
        }

        private void layPath(Menu menu, int name, int names) {
            int first = 0;
            int size = names;
            for (int step = 0; step < MAX_STEPS && size > 1; step++) {
                // Every menu for several names is counted once, by its first name.
                if (first == name) {
                    menu.addBranching();
                }
                int parts = bestParts[run(first, size)];
                int part = 1;
                int partSize = firstSizeOf(parts, first, size);
                for (int left = parts - 1; left >= 1 && name >= first + partSize; left--) {
                    first += partSize;
                    size -= partSize;
                    part++;
                    partSize = firstSizeOf(left, first, size);
                }
                size = partSize;
                menu.addStep(name, part);
            }
        }
    }
}
