/**
 * Names that are spelled in knots on the belts of five fishers, what storms do
 * to them, and the list of those who drowned.
 *
 * The methods here look at their arguments, throw what is to be thrown, and
 * leave the rest to the classes inside. No method makes an object but what it
 * throws: every row is made with the object and used again.
 */
public final class BeltKnots {
    public static final int NONE = -1;

    private static final int FISHERS = 5;
    private static final int MOST_NAMES = 6;
    private static final int MOST_KNOTS = 8;
    private static final int MOST_ENTRIES = 12;
    private static final int MOST_SAVED = 6;
    private static final int MOST_CODES = 60;
    private static final int MOST_TOLD = MOST_NAMES * (MOST_KNOTS + 1);
    private static final int STORMS_AHEAD = 60;

    private static final int SHORTEST_BELT = 20;
    private static final int LONGEST_BELT = 120;
    private static final int FIRST_BELT = 60;

    private static final int LETTERS = 16;
    private static final int UNREADABLE = 16;
    private static final int CORD_BEHIND_KNOT = 1;
    private static final int CORD_OF_NAME = 2;

    private static final int CAN = 0;
    private static final int BELT_IS_FULL = 1;
    private static final int TOO_LITTLE_LEFT = 2;
    private static final int SAME_NAME = 3;
    private static final int NOT_READABLE = 4;
    private static final int SAME_FISHER = 5;
    private static final int NO_SUCH_NAME = 6;

    private final State state;
    private final History history;
    private final Buffer buffer;
    private final Reader reader;
    private final Word word;

    public BeltKnots() {
        state = new State();
        history = new History();
        buffer = new Buffer();
        reader = new Reader();
        word = new Word();
    }

    // ---- belts, names

    public int tie(int fisher)
            throws IndexOutOfBoundsException, IllegalArgumentException, IllegalStateException {
        needFisher(fisher);
        needWord();
        if (Names.whyNotTied(state, word, fisher) != CAN) {
            throw new IllegalStateException("the name cannot be tied");
        }
        history.push(state);
        buffer.empty();
        return Names.tieOn(state, word, fisher);
    }

    public int cut(int fisher, int name) throws IndexOutOfBoundsException {
        needName(fisher, name);
        history.push(state);
        return Names.takeOff(state, fisher, name);
    }

    public int fast(int fisher, int name) throws IndexOutOfBoundsException, IllegalStateException {
        needName(fisher, name);
        if (Names.whyNotTightened(state, fisher, name) != CAN) {
            throw new IllegalStateException("the name cannot be tightened");
        }
        history.push(state);
        return Names.tighten(state, fisher, name);
    }

    public int give(int fisher, int name, int other)
            throws IndexOutOfBoundsException, IllegalStateException {
        needName(fisher, name);
        needFisher(other);
        if (Names.whyNotGiven(state, word, fisher, name, other) != CAN) {
            throw new IllegalStateException("the name cannot be given");
        }
        history.push(state);
        return Names.handOver(state, word, fisher, name, other);
    }

    public int storm(int fisher) throws IndexOutOfBoundsException {
        needFisher(fisher);
        history.push(state);
        return Sea.comeOver(state, fisher);
    }

    public int belt(int fisher, int length)
            throws IndexOutOfBoundsException, IllegalArgumentException, IllegalStateException {
        needFisher(fisher);
        if (length < SHORTEST_BELT || length > LONGEST_BELT) {
            throw new IllegalArgumentException("no such length of a belt");
        }
        int old = state.at(State.fisherCell(fisher, State.LENGTH));
        if (old - state.left(fisher) > length) {
            throw new IllegalStateException("the names take more than this length");
        }
        history.push(state);
        state.put(State.fisherCell(fisher, State.LENGTH), length);
        return old;
    }

    public int set(int setting, int value) throws IndexOutOfBoundsException, IllegalArgumentException {
        if (setting != 0 && setting != 1) {
            throw new IndexOutOfBoundsException("no such setting");
        }
        int least = setting == 0 ? 1 : 0;
        int most = setting == 0 ? 9 : 8;
        if (value < least || value > most) {
            throw new IllegalArgumentException("no such value of the setting");
        }
        history.push(state);
        int old = state.at(State.SETTINGS + setting);
        state.put(State.SETTINGS + setting, value);
        return old;
    }

    // ---- texts

    public int append(int code) throws IllegalArgumentException, IllegalStateException {
        if (code < 33 || code > 126) {
            throw new IllegalArgumentException("no such character code");
        }
        if (buffer.isFull()) {
            throw new IllegalStateException("the buffer is full");
        }
        return buffer.add(code);
    }

    public int clearBuffer() {
        return buffer.empty();
    }

    public int firstError() {
        return reader.readAll(buffer);
    }

    public int work() throws IllegalArgumentException {
        if (reader.readAll(buffer) < buffer.size() || !reader.mayEnd()) {
            throw new IllegalArgumentException("the buffer is not complete works");
        }
        history.push(state);
        int done = 0;
        int reason = CAN;
        for (int index = 0; index < buffer.size() && reason == CAN; index++) {
            if (!buffer.beginsPart(index)) {
                continue;
            }
            reason = whyNotDone(index);
            if (reason == CAN) {
                doPart(index);
                done++;
            }
        }
        state.put(State.STOP_PART, done);
        state.put(State.STOP_REASON, reason);
        buffer.empty();
        return done;
    }

    public int stopped(int what) throws IllegalArgumentException {
        if (what != 0 && what != 1) {
            throw new IllegalArgumentException("no such number of a stop");
        }
        return numberOfStop(what);
    }

    public int told(int fisher, int index) throws IndexOutOfBoundsException, IllegalArgumentException {
        needFisher(fisher);
        if (index < 0) {
            throw new IllegalArgumentException("no such index");
        }
        return Tally.codeOfBelt(state, fisher, index);
    }

    // ---- undo, the snapshot

    public int undo() throws IllegalStateException {
        if (history.size() == 0) {
            throw new IllegalStateException("no state is saved");
        }
        history.pop(state);
        return history.size();
    }

    public int keep() {
        history.takeSnapshot(state);
        return Tally.names(state);
    }

    public int restore() throws IllegalStateException {
        if (!history.hasSnapshot()) {
            throw new IllegalStateException("there is no snapshot");
        }
        history.push(state);
        history.loadSnapshot(state);
        return Tally.names(state);
    }

    // ---- looks; nothing is changed

    public int letter(int letter, int what) throws IndexOutOfBoundsException, IllegalArgumentException {
        if (letter < 0 || letter >= LETTERS) {
            throw new IndexOutOfBoundsException("no such letter");
        }
        needWhat(what, 5);
        return Tally.ofLetter(state, letter, what);
    }

    public int knot(int fisher, int name, int knot, int what)
            throws IndexOutOfBoundsException, IllegalArgumentException {
        needName(fisher, name);
        if (knot < 0 || knot >= MOST_KNOTS) {
            throw new IllegalArgumentException("no such knot");
        }
        needWhat(what, 2);
        return Tally.ofKnot(state, fisher, name, knot, what);
    }

    public int name(int fisher, int name, int what)
            throws IndexOutOfBoundsException, IllegalArgumentException {
        needName(fisher, name);
        needWhat(what, 4);
        return Tally.ofName(state, fisher, name, what);
    }

    public int fisher(int fisher, int what) throws IndexOutOfBoundsException, IllegalArgumentException {
        needFisher(fisher);
        needWhat(what, 4);
        return Tally.ofFisher(state, fisher, what);
    }

    public int drowned(int entry, int what) throws IllegalArgumentException {
        if (entry < 0) {
            throw new IllegalArgumentException("no such entry");
        }
        needWhat(what, 3);
        return Sea.ofEntry(state, entry, what);
    }

    public int find() throws IllegalArgumentException {
        needWord();
        return Sea.latestWith(state, word);
    }

    public int count(int what) throws IllegalArgumentException {
        needWhat(what, 13);
        return what == 13 ? history.size() : Tally.ofAll(state, what);
    }

    // ---- what would be; nothing is changed

    public int whyNot(int fisher) throws IndexOutOfBoundsException, IllegalArgumentException {
        needFisher(fisher);
        needWord();
        return Names.whyNotTied(state, word, fisher);
    }

    public int noGift(int fisher, int name, int other) throws IndexOutOfBoundsException {
        needName(fisher, name);
        needFisher(other);
        return Names.whyNotGiven(state, word, fisher, name, other);
    }

    public int ifStorm(int fisher, int what) throws IndexOutOfBoundsException, IllegalArgumentException {
        needFisher(fisher);
        needWhat(what, 1);
        return Sea.ofNextStorm(state, fisher, what);
    }

    public int bestBelt() throws IllegalArgumentException {
        needWord();
        int best = NONE;
        for (int fisher = 0; fisher < FISHERS; fisher++) {
            boolean can = Names.whyNotTied(state, word, fisher) == CAN;
            // the same cord goes off every belt, so what is left now tells which is best
            if (can && (best == NONE || state.left(fisher) > state.left(best))) {
                best = fisher;
            }
        }
        return best;
    }

    public double trueShare() {
        return Tally.shareThatReadsTrue(state);
    }

    public long digest() {
        long hash = 3917;
        for (int what = 0; what <= 12; what++) {
            hash = 31 * hash + Tally.ofAll(state, what);
        }
        hash = 31 * hash + history.size();
        hash = Digest.withLetters(state, hash);
        for (int fisher = 0; fisher < FISHERS; fisher++) {
            hash = Digest.withFisher(state, fisher, hash);
            hash = Digest.withNames(state, fisher, hash);
        }
        hash = Digest.withEntries(state, hash);
        for (int what = 0; what <= 1; what++) {
            hash = 31 * hash + numberOfStop(what);
        }
        hash = 31 * hash + Digest.bitsOfShare(Tally.shareThatReadsTrue(state));
        return Digest.withBuffer(buffer, hash);
    }

    private static void needFisher(int fisher) {
        if (fisher < 0 || fisher >= FISHERS) {
            throw new IndexOutOfBoundsException("no such fisher");
        }
    }

    private void needName(int fisher, int name) {
        needFisher(fisher);
        if (!state.hasName(fisher, name)) {
            throw new IndexOutOfBoundsException("no such name");
        }
    }

    private void needWord() {
        if (!buffer.spells(word)) {
            throw new IllegalArgumentException("the buffer is not a name");
        }
    }

    private static void needWhat(int what, int most) {
        if (what < 0 || what > most) {
            throw new IllegalArgumentException("there is no such number to ask for");
        }
    }

    private int numberOfStop(int what) {
        if (state.at(State.STOP_REASON) == CAN) {
            return NONE;
        }
        return state.at(what == 0 ? State.STOP_PART : State.STOP_REASON);
    }

    /**
     * Answers why the part of the buffer from start on cannot be done; what it
     * would tie is left in the word.
     */
    private int whyNotDone(int start) {
        int first = buffer.at(start);
        int place = start + Reader.placeOfFisher(first);
        int fisher = buffer.digitAt(place);
        if (first == 's') {
            return CAN;
        }
        if (first == 't') {
            buffer.spell(word, place + 2, buffer.endOfPart(start));
            return Names.whyNotTied(state, word, fisher);
        }
        int name = buffer.digitAt(place + 2);
        if (!state.hasName(fisher, name)) {
            return NO_SUCH_NAME;
        }
        if (first == 'g') {
            return Names.whyNotGiven(state, word, fisher, name, buffer.digitAt(place + 4));
        }
        return first == 'f' ? Names.whyNotTightened(state, fisher, name) : CAN;
    }

    /** Does the part of the buffer from start on, which whyNotDone has just found nothing against. */
    private void doPart(int start) {
        int first = buffer.at(start);
        int place = start + Reader.placeOfFisher(first);
        int fisher = buffer.digitAt(place);
        int name = buffer.digitAt(place + 2);
        switch (first) {
            case 't':
                Names.tieOn(state, word, fisher);
                break;
            case 's':
                Sea.comeOver(state, fisher);
                break;
            case 'g':
                Names.handOver(state, word, fisher, name, buffer.digitAt(place + 4));
                break;
            case 'f':
                Names.tighten(state, fisher, name);
                break;
            default:
                Names.takeOff(state, fisher, name);
                break;
        }
    }

    /** The letters, how they are tied and how they are read. */
    private static final class Alphabet {
        static int turns(int letter) {
            return letter / 4 + 1;
        }

        static int loops(int letter) {
            return letter % 4;
        }

        static int cordOfKnot(int letter) {
            return 2 * (letter / 4 + 1) + letter % 4;
        }

        static boolean isVowel(int letter) {
            return letter == 0 || letter == 4 || letter == 8 || letter == 14;
        }

        static int reading(int letter, int loosened) {
            if (loosened < 1) {
                return letter;
            }
            return loosened == 1 ? letter + 1 : UNREADABLE;
        }

        static int codeOf(int read) {
            return read == UNREADABLE ? '?' : 'a' + read;
        }

        static boolean isCode(int code) {
            return code >= 'a' && code <= 'p';
        }
    }

    /** The letters of a name that is to be tied or looked for. */
    private static final class Word {
        private final int[] letters = new int[MOST_KNOTS];
        private int size = 0;

        void empty() {
            size = 0;
        }

        void add(int letter) {
            if (size >= 0 && size < letters.length) {
                letters[size] = letter;
                size++;
            }
        }

        int size() {
            return size;
        }

        int at(int place) {
            return place >= 0 && place < letters.length ? letters[place] : NONE;
        }

        int cord() {
            int cord = CORD_OF_NAME;
            for (int place = 0; place < size; place++) {
                cord += Alphabet.cordOfKnot(at(place)) + CORD_BEHIND_KNOT;
            }
            return cord;
        }
    }

    /**
     * All that undo brings back, as one row of cells, so that a state is saved by
     * one copy. A cell that the row does not have reads as 0 and takes nothing.
     */
    private static final class State {
        // cells of all
        static final int STORMS = 0;
        static final int SETTINGS = 1;
        static final int LOOSENING_STEP = SETTINGS;
        static final int UNREADABLE_BORNE = SETTINGS + 1;
        static final int KNOTS_TIED = 3;
        static final int CORD_TIED = 4;
        static final int STOP_PART = 5;
        static final int STOP_REASON = 6;
        static final int ENTRIES = 7;
        static final int FISHERS_FROM = 8;

        // cells of a knot
        static final int TIED_AS = 0;
        static final int LOOSENED = 1;
        static final int TIED_FIRST = 2;
        static final int KNOT_CELLS = 3;

        // cells of a name
        static final int KNOTS = 0;
        static final int KNOTS_FROM = 1;
        static final int NAME_CELLS = KNOTS_FROM + MOST_KNOTS * KNOT_CELLS;

        // cells of a fisher
        static final int LENGTH = 0;
        static final int NAMES = 1;
        static final int LOST = 2;
        static final int GIVEN = 3;
        static final int NAMES_FROM = 4;
        static final int FISHER_CELLS = NAMES_FROM + MOST_NAMES * NAME_CELLS;

        // cells of an entry of the list of the drowned
        static final int ENTRY_KNOTS = 0;
        static final int ENTRY_FISHER = 1;
        static final int ENTRY_STORM = 2;
        static final int ENTRY_LETTERS = 3;
        static final int ENTRY_CELLS = ENTRY_LETTERS + MOST_KNOTS;

        static final int ENTRIES_FROM = FISHERS_FROM + FISHERS * FISHER_CELLS;
        static final int CELLS = ENTRIES_FROM + MOST_ENTRIES * ENTRY_CELLS;

        private final int[] cells = new int[CELLS];

        State() {
            put(LOOSENING_STEP, 3);
            put(UNREADABLE_BORNE, 1);
            for (int fisher = 0; fisher < FISHERS; fisher++) {
                put(fisherCell(fisher, LENGTH), FIRST_BELT);
            }
        }

        static int fisherCell(int fisher, int what) {
            return FISHERS_FROM + fisher * FISHER_CELLS + what;
        }

        static int nameCell(int fisher, int name) {
            return FISHERS_FROM + fisher * FISHER_CELLS + NAMES_FROM + name * NAME_CELLS;
        }

        static int knotCell(int fisher, int name, int knot) {
            int fisherFrom = FISHERS_FROM + fisher * FISHER_CELLS;
            return fisherFrom + NAMES_FROM + name * NAME_CELLS + KNOTS_FROM + knot * KNOT_CELLS;
        }

        static int entryCell(int entry, int what) {
            return ENTRIES_FROM + entry * ENTRY_CELLS + what;
        }

        int at(int cell) {
            return cell >= 0 && cell < cells.length ? cells[cell] : 0;
        }

        void put(int cell, int value) {
            if (cell >= 0 && cell < cells.length) {
                cells[cell] = value;
            }
        }

        void add(int cell, int more) {
            put(cell, at(cell) + more);
        }

        /** Moves the cells up to end nearer, over as many of them as are taken out. */
        void closeUp(int from, int end, int taken) {
            for (int cell = from; cell < end - taken; cell++) {
                put(cell, at(cell + taken));
            }
        }

        void copyTo(int[] row, int from) {
            if (from >= 0 && from <= row.length - CELLS) {
                System.arraycopy(cells, 0, row, from, CELLS);
            }
        }

        void copyFrom(int[] row, int from) {
            if (from >= 0 && from <= row.length - CELLS) {
                System.arraycopy(row, from, cells, 0, CELLS);
            }
        }

        int names(int fisher) {
            return at(fisherCell(fisher, NAMES));
        }

        boolean hasName(int fisher, int name) {
            return name >= 0 && name < names(fisher);
        }

        int knots(int fisher, int name) {
            return at(nameCell(fisher, name) + KNOTS);
        }

        int loosened(int fisher, int name, int knot) {
            return at(knotCell(fisher, name, knot) + LOOSENED);
        }

        int readsAs(int fisher, int name, int knot) {
            int cell = knotCell(fisher, name, knot);
            return Alphabet.reading(at(cell + TIED_AS), at(cell + LOOSENED));
        }

        int cordOf(int fisher, int name) {
            int cord = CORD_OF_NAME;
            int knots = at(nameCell(fisher, name) + KNOTS);
            for (int knot = 0; knot < knots; knot++) {
                int letter = at(knotCell(fisher, name, knot) + TIED_AS);
                cord += Alphabet.cordOfKnot(letter) + CORD_BEHIND_KNOT;
            }
            return cord;
        }

        int left(int fisher) {
            int left = at(fisherCell(fisher, LENGTH));
            int names = names(fisher);
            for (int name = 0; name < names; name++) {
                left -= cordOf(fisher, name);
            }
            return left;
        }
    }

    /** The saved states, in a ring, so that the oldest one is dropped without a move; and the snapshot. */
    private static final class History {
        private final int[] saved = new int[MOST_SAVED * State.CELLS];
        private final int[] snapshot = new int[State.CELLS];
        private int oldest = 0;
        private int size = 0;
        private boolean snapshotTaken = false;

        int size() {
            return size;
        }

        void push(State state) {
            if (size == MOST_SAVED) {
                oldest = (oldest + 1) % MOST_SAVED;
                size--;
            }
            state.copyTo(saved, cellOf(size));
            size++;
        }

        void pop(State state) {
            if (size > 0) {
                size--;
                state.copyFrom(saved, cellOf(size));
            }
        }

        private int cellOf(int age) {
            return (oldest + age) % MOST_SAVED * State.CELLS;
        }

        boolean hasSnapshot() {
            return snapshotTaken;
        }

        void takeSnapshot(State state) {
            state.copyTo(snapshot, 0);
            snapshotTaken = true;
        }

        void loadSnapshot(State state) {
            state.copyFrom(snapshot, 0);
        }
    }

    /** The characters that were appended. */
    private static final class Buffer {
        private final int[] codes = new int[MOST_CODES];
        private int size = 0;

        boolean isFull() {
            return size >= codes.length;
        }

        int size() {
            return size;
        }

        int at(int index) {
            return index >= 0 && index < size && index < codes.length ? codes[index] : NONE;
        }

        int digitAt(int index) {
            return at(index) - '0';
        }

        int add(int code) {
            if (size >= 0 && size < codes.length) {
                codes[size] = code;
                size++;
            }
            return size;
        }

        int empty() {
            int old = size;
            size = 0;
            return old;
        }

        boolean beginsPart(int index) {
            return index == 0 || at(index - 1) == ';';
        }

        int endOfPart(int start) {
            int end = start;
            while (end < size && at(end) != ';') {
                end++;
            }
            return end;
        }

        /** Puts what stands from one index up to another into the word; answers if it is a name. */
        boolean spell(Word word, int from, int end) {
            word.empty();
            if (end <= from || end - from > MOST_KNOTS) {
                return false;
            }
            for (int index = from; index < end; index++) {
                if (!Alphabet.isCode(at(index))) {
                    return false;
                }
                word.add(at(index) - 'a');
            }
            return true;
        }

        boolean spells(Word word) {
            return spell(word, 0, size);
        }
    }

    /**
     * Reads works as a text, a character at a time. The kinds of parts begin with
     * different characters, so the first one tells what has to follow: in a
     * pattern F is a fisher, N a name, L a letter, and all else is itself.
     */
    private static final class Reader {
        private String pattern = "";
        private int place = 0;

        static String patternOf(int first) {
            switch (first) {
                case 't': return "tieF:LLLLLLLL";
                case 's': return "stormF";
                case 'g': return "giveF/N>F";
                case 'f': return "fastF/N";
                case 'c': return "cutF/N";
                default: return "";
            }
        }

        static int placeOfFisher(int first) {
            return patternOf(first).indexOf('F');
        }

        /** Answers the index of the first syntax error, or the buffer's length. */
        int readAll(Buffer buffer) {
            pattern = "";
            place = 0;
            for (int index = 0; index < buffer.size(); index++) {
                if (!takes(buffer.at(index))) {
                    return index;
                }
            }
            return buffer.size();
        }

        /** Answers if the works may end with the character that was read last. */
        boolean mayEnd() {
            if (place < 1 || place > pattern.length()) {
                return false;
            }
            return place == pattern.length() || pattern.charAt(place - 1) == 'L';
        }

        private boolean takes(int code) {
            if (code == ';' && mayEnd()) {
                place = 0;
                return true;
            }
            if (place == 0) {
                pattern = patternOf(code);
            }
            if (place < 0 || place >= pattern.length() || !fits(pattern.charAt(place), code)) {
                return false;
            }
            place++;
            return true;
        }

        private static boolean fits(char sign, int code) {
            switch (sign) {
                case 'F': return code >= '0' && code < '0' + FISHERS;
                case 'N': return code >= '0' && code < '0' + MOST_NAMES;
                case 'L': return Alphabet.isCode(code);
                default: return code == sign;
            }
        }
    }

    /** How names are tied, taken off, tightened and given, and why they cannot be. */
    private static final class Names {
        static int whyNotTied(State state, Word word, int fisher) {
            int names = state.names(fisher);
            if (names >= MOST_NAMES) {
                return BELT_IS_FULL;
            }
            if (word.cord() > state.left(fisher)) {
                return TOO_LITTLE_LEFT;
            }
            for (int name = 0; name < names; name++) {
                if (reads(state, fisher, name, word)) {
                    return SAME_NAME;
                }
            }
            return CAN;
        }

        private static boolean reads(State state, int fisher, int name, Word word) {
            if (state.knots(fisher, name) != word.size()) {
                return false;
            }
            for (int knot = 0; knot < word.size(); knot++) {
                if (state.readsAs(fisher, name, knot) != word.at(knot)) {
                    return false;
                }
            }
            return true;
        }

        static int tieOn(State state, Word word, int fisher) {
            int name = state.names(fisher);
            state.put(State.nameCell(fisher, name) + State.KNOTS, word.size());
            for (int knot = 0; knot < word.size(); knot++) {
                int cell = State.knotCell(fisher, name, knot);
                state.put(cell + State.TIED_AS, word.at(knot));
                state.put(cell + State.LOOSENED, 0);
                state.put(cell + State.TIED_FIRST, word.at(knot));
            }
            state.add(State.fisherCell(fisher, State.NAMES), 1);
            state.add(State.KNOTS_TIED, word.size());
            state.add(State.CORD_TIED, word.cord());
            return name;
        }

        /** Answers the cord that the name took. */
        static int takeOff(State state, int fisher, int name) {
            int cord = state.cordOf(fisher, name);
            int end = State.nameCell(fisher, MOST_NAMES);
            state.closeUp(State.nameCell(fisher, name), end, State.NAME_CELLS);
            state.add(State.fisherCell(fisher, State.NAMES), -1);
            state.add(State.CORD_TIED, -cord);
            return cord;
        }

        static int whyNotTightened(State state, int fisher, int name) {
            int more = 0;
            int knots = state.knots(fisher, name);
            for (int knot = 0; knot < knots; knot++) {
                more += cordToTighten(state, State.knotCell(fisher, name, knot));
            }
            return more > state.left(fisher) ? TOO_LITTLE_LEFT : CAN;
        }

        /** Answers how many knots were loose and are tight now. */
        static int tighten(State state, int fisher, int name) {
            int tightened = 0;
            int knots = state.knots(fisher, name);
            for (int knot = 0; knot < knots; knot++) {
                int cell = State.knotCell(fisher, name, knot);
                if (state.at(cell + State.LOOSENED) == 1) {
                    state.add(State.CORD_TIED, cordToTighten(state, cell));
                    state.put(cell + State.TIED_AS, state.readsAs(fisher, name, knot));
                    state.put(cell + State.LOOSENED, 0);
                    tightened++;
                }
            }
            return tightened;
        }

        /** What a knot takes more as the letter that it reads as; one that is unreadable stays. */
        private static int cordToTighten(State state, int cell) {
            int letter = state.at(cell + State.TIED_AS);
            int read = Alphabet.reading(letter, state.at(cell + State.LOOSENED));
            return read == UNREADABLE ? 0 : Alphabet.cordOfKnot(read) - Alphabet.cordOfKnot(letter);
        }

        /** Leaves the name, as it reads now, in the word if both fishers differ and it is readable. */
        static int whyNotGiven(State state, Word word, int fisher, int name, int other) {
            if (fisher == other) {
                return SAME_FISHER;
            }
            word.empty();
            int knots = state.knots(fisher, name);
            for (int knot = 0; knot < knots; knot++) {
                int read = state.readsAs(fisher, name, knot);
                if (read == UNREADABLE) {
                    return NOT_READABLE;
                }
                word.add(read);
            }
            return whyNotTied(state, word, other);
        }

        /** Ties the word, which whyNotGiven has left, in place of the name that it was read from. */
        static int handOver(State state, Word word, int fisher, int name, int other) {
            takeOff(state, fisher, name);
            state.add(State.fisherCell(fisher, State.GIVEN), 1);
            return tieOn(state, word, other);
        }
    }

    /** The storms, and the list of those who drowned. */
    private static final class Sea {
        /** How often a knot will have been loosened when so many storms more have come to its fisher. */
        static int loosenedBehind(State state, int fisher, int name, int knot, int storms) {
            int cell = State.knotCell(fisher, name, knot);
            int loosened = state.at(cell + State.LOOSENED);
            int divisor = state.at(State.LOOSENING_STEP);
            if (divisor < 1 || !Alphabet.isVowel(state.at(cell + State.TIED_AS))) {
                return loosened;
            }
            int sum = knot + 1 + state.at(State.STORMS);
            return loosened + (sum + storms) / divisor - sum / divisor;
        }

        static int unreadableBehind(State state, int fisher, int name, int storms) {
            int unreadable = 0;
            int knots = state.knots(fisher, name);
            for (int knot = 0; knot < knots; knot++) {
                // only vowels are loosened, so from the second time on there is no letter
                unreadable += loosenedBehind(state, fisher, name, knot, storms) > 1 ? 1 : 0;
            }
            return unreadable;
        }

        static int stormsToLoss(State state, int fisher, int name) {
            int borne = state.at(State.UNREADABLE_BORNE);
            for (int storms = 1; storms <= STORMS_AHEAD; storms++) {
                if (unreadableBehind(state, fisher, name, storms) > borne) {
                    return storms;
                }
            }
            return NONE;
        }

        static int ofNextStorm(State state, int fisher, int what) {
            int lost = 0;
            int loosened = 0;
            int borne = state.at(State.UNREADABLE_BORNE);
            int names = state.names(fisher);
            for (int name = 0; name < names; name++) {
                lost += unreadableBehind(state, fisher, name, 1) > borne ? 1 : 0;
                loosened += loosenedByNext(state, fisher, name);
            }
            return what == 0 ? lost : loosened;
        }

        private static int loosenedByNext(State state, int fisher, int name) {
            int loosened = 0;
            int knots = state.knots(fisher, name);
            for (int knot = 0; knot < knots; knot++) {
                int now = state.loosened(fisher, name, knot);
                loosened += loosenedBehind(state, fisher, name, knot, 1) - now;
            }
            return loosened;
        }

        /** Answers how many names are lost. */
        static int comeOver(State state, int fisher) {
            int names = state.names(fisher);
            for (int name = 0; name < names; name++) {
                loosen(state, fisher, name);
            }
            state.add(State.STORMS, 1);
            int borne = state.at(State.UNREADABLE_BORNE);
            int lost = 0;
            for (int met = 0; met < names; met++) {
                int name = met - lost;
                if (unreadableBehind(state, fisher, name, 0) > borne) {
                    lose(state, fisher, name);
                    lost++;
                }
            }
            return lost;
        }

        private static void loosen(State state, int fisher, int name) {
            int knots = state.knots(fisher, name);
            for (int knot = 0; knot < knots; knot++) {
                int loosened = loosenedBehind(state, fisher, name, knot, 1);
                state.put(State.knotCell(fisher, name, knot) + State.LOOSENED, loosened);
            }
        }

        private static void lose(State state, int fisher, int name) {
            enter(state, fisher, name);
            Names.takeOff(state, fisher, name);
            state.add(State.fisherCell(fisher, State.LOST), 1);
        }

        private static void enter(State state, int fisher, int name) {
            if (state.at(State.ENTRIES) >= MOST_ENTRIES) {
                int end = State.entryCell(MOST_ENTRIES, 0);
                state.closeUp(State.entryCell(0, 0), end, State.ENTRY_CELLS);
                state.add(State.ENTRIES, -1);
            }
            int cell = State.entryCell(state.at(State.ENTRIES), 0);
            int knots = state.knots(fisher, name);
            state.put(cell + State.ENTRY_KNOTS, knots);
            state.put(cell + State.ENTRY_FISHER, fisher);
            state.put(cell + State.ENTRY_STORM, state.at(State.STORMS));
            for (int knot = 0; knot < knots; knot++) {
                int letter = state.at(State.knotCell(fisher, name, knot) + State.TIED_FIRST);
                state.put(cell + State.ENTRY_LETTERS + knot, letter);
            }
            state.add(State.ENTRIES, 1);
        }

        static int ofEntry(State state, int entry, int what) {
            if (entry < 0 || entry >= state.at(State.ENTRIES)) {
                return NONE;
            }
            switch (what) {
                case 0: return state.at(State.entryCell(entry, State.ENTRY_KNOTS));
                case 1: return state.at(State.entryCell(entry, State.ENTRY_FISHER));
                case 2: return state.at(State.entryCell(entry, State.ENTRY_STORM));
                default: return state.at(State.entryCell(entry, State.ENTRY_LETTERS));
            }
        }

        static int latestWith(State state, Word word) {
            for (int entry = state.at(State.ENTRIES) - 1; entry >= 0; entry--) {
                if (isSpelled(state, entry, word)) {
                    return entry;
                }
            }
            return NONE;
        }

        private static boolean isSpelled(State state, int entry, Word word) {
            if (state.at(State.entryCell(entry, State.ENTRY_KNOTS)) != word.size()) {
                return false;
            }
            for (int place = 0; place < word.size(); place++) {
                if (state.at(State.entryCell(entry, State.ENTRY_LETTERS + place)) != word.at(place)) {
                    return false;
                }
            }
            return true;
        }
    }

    /** The numbers that are told of letters, knots, names, fishers and of all. */
    private static final class Tally {
        // what is asked of a knot when knots are counted
        private static final int ANY = 0;
        private static final int LOOSE = 1;
        private static final int TIED = 2;
        private static final int READ = 3;

        static int knotsThatAre(State state, int kind, int letter) {
            int sum = 0;
            for (int fisher = 0; fisher < FISHERS; fisher++) {
                int names = state.names(fisher);
                for (int name = 0; name < names; name++) {
                    sum += knotsOfName(state, fisher, name, kind, letter);
                }
            }
            return sum;
        }

        private static int knotsOfName(State state, int fisher, int name, int kind, int letter) {
            int sum = 0;
            int knots = state.knots(fisher, name);
            for (int knot = 0; knot < knots; knot++) {
                sum += isOfKind(state, State.knotCell(fisher, name, knot), kind, letter) ? 1 : 0;
            }
            return sum;
        }

        private static boolean isOfKind(State state, int cell, int kind, int letter) {
            int tied = state.at(cell + State.TIED_AS);
            int loosened = state.at(cell + State.LOOSENED);
            switch (kind) {
                case LOOSE: return loosened > 0;
                case TIED: return tied == letter;
                case READ: return Alphabet.reading(tied, loosened) == letter;
                default: return true;
            }
        }

        static int ofLetter(State state, int letter, int what) {
            switch (what) {
                case 0: return Alphabet.turns(letter);
                case 1: return Alphabet.loops(letter);
                case 2: return Alphabet.cordOfKnot(letter);
                case 3: return Alphabet.isVowel(letter) ? 1 : 0;
                case 4: return knotsThatAre(state, TIED, letter);
                default: return knotsThatAre(state, READ, letter);
            }
        }

        static int ofKnot(State state, int fisher, int name, int knot, int what) {
            if (knot < 0 || knot >= state.knots(fisher, name)) {
                return NONE;
            }
            switch (what) {
                case 0: return state.at(State.knotCell(fisher, name, knot) + State.TIED_AS);
                case 1: return state.readsAs(fisher, name, knot);
                default: return state.loosened(fisher, name, knot);
            }
        }

        static int ofName(State state, int fisher, int name, int what) {
            switch (what) {
                case 0: return state.knots(fisher, name);
                case 1: return state.cordOf(fisher, name);
                case 2: return knotsOfName(state, fisher, name, LOOSE, NONE);
                case 3: return Sea.unreadableBehind(state, fisher, name, 0);
                default: return Sea.stormsToLoss(state, fisher, name);
            }
        }

        static int ofFisher(State state, int fisher, int what) {
            switch (what) {
                case 0: return state.at(State.fisherCell(fisher, State.LENGTH));
                case 1: return state.names(fisher);
                case 2: return state.left(fisher);
                case 3: return state.at(State.fisherCell(fisher, State.LOST));
                default: return state.at(State.fisherCell(fisher, State.GIVEN));
            }
        }

        static int ofAll(State state, int what) {
            switch (what) {
                case 0: return names(state);
                case 1: return state.at(State.STORMS);
                case 2: return cordByNames(state);
                case 3: return cordByLetters(state);
                case 4: return state.at(State.CORD_TIED);
                case 5: return knotsThatAre(state, LOOSE, NONE);
                case 6: return state.at(State.ENTRIES);
                case 7: return ofFishers(state, State.LOST);
                case 8: return ofFishers(state, State.GIVEN);
                case 9: return state.at(State.KNOTS_TIED);
                case 10: return fishersWithSharedNames(state);
                case 11: return state.at(State.LOOSENING_STEP);
                default: return state.at(State.UNREADABLE_BORNE);
            }
        }

        static int names(State state) {
            return ofFishers(state, State.NAMES);
        }

        private static int ofFishers(State state, int what) {
            int sum = 0;
            for (int fisher = 0; fisher < FISHERS; fisher++) {
                sum += state.at(State.fisherCell(fisher, what));
            }
            return sum;
        }

        private static int cordByNames(State state) {
            int cord = 0;
            for (int fisher = 0; fisher < FISHERS; fisher++) {
                int names = state.names(fisher);
                for (int name = 0; name < names; name++) {
                    cord += state.cordOf(fisher, name);
                }
            }
            return cord;
        }

        private static int cordByLetters(State state) {
            int cord = CORD_OF_NAME * names(state);
            for (int letter = 0; letter < LETTERS; letter++) {
                int each = Alphabet.cordOfKnot(letter) + CORD_BEHIND_KNOT;
                cord += knotsThatAre(state, TIED, letter) * each;
            }
            return cord;
        }

        private static int fishersWithSharedNames(State state) {
            int bits = 0;
            for (int fisher = 0; fisher < FISHERS; fisher++) {
                for (int other = fisher + 1; other < FISHERS; other++) {
                    if (share(state, fisher, other)) {
                        bits |= 1 << fisher | 1 << other;
                    }
                }
            }
            return bits;
        }

        private static boolean share(State state, int fisher, int other) {
            int names = state.names(fisher);
            int others = state.names(other);
            for (int name = 0; name < names; name++) {
                for (int its = 0; its < others; its++) {
                    if (readAlike(state, fisher, name, other, its)) {
                        return true;
                    }
                }
            }
            return false;
        }

        private static boolean readAlike(State state, int fisher, int name, int other, int its) {
            int knots = state.knots(fisher, name);
            if (knots != state.knots(other, its)) {
                return false;
            }
            for (int knot = 0; knot < knots; knot++) {
                if (state.readsAs(fisher, name, knot) != state.readsAs(other, its, knot)) {
                    return false;
                }
            }
            return true;
        }

        /** Answers the code at an index of the belt's names with "-" between them. */
        static int codeOfBelt(State state, int fisher, int index) {
            int names = state.names(fisher);
            int before = 0;
            for (int name = 0; name < names; name++) {
                int knot = index - before;
                int knots = state.knots(fisher, name);
                if (knot < knots) {
                    return Alphabet.codeOf(state.readsAs(fisher, name, knot));
                }
                if (knot == knots) {
                    return name + 1 < names ? '-' : NONE;
                }
                before += knots + 1;
            }
            return NONE;
        }

        static double shareThatReadsTrue(State state) {
            int knots = knotsThatAre(state, ANY, NONE);
            int loose = knotsThatAre(state, LOOSE, NONE);
            return knots == 0 ? 1.0 : (double) (knots - loose) / (double) knots;
        }
    }

    /** The parts of the hash of the whole state. */
    private static final class Digest {
        static long withLetters(State state, long start) {
            long hash = start;
            for (int letter = 0; letter < LETTERS; letter++) {
                for (int what = 0; what <= 5; what++) {
                    hash = 31 * hash + Tally.ofLetter(state, letter, what);
                }
            }
            return hash;
        }

        static long withFisher(State state, int fisher, long start) {
            long hash = start;
            for (int what = 0; what <= 4; what++) {
                hash = 31 * hash + Tally.ofFisher(state, fisher, what);
            }
            for (int what = 0; what <= 1; what++) {
                hash = 31 * hash + Sea.ofNextStorm(state, fisher, what);
            }
            for (int index = 0; index < MOST_TOLD; index++) {
                int code = Tally.codeOfBelt(state, fisher, index);
                if (code == NONE) {
                    break;
                }
                hash = 31 * hash + code;
            }
            return hash;
        }

        static long withNames(State state, int fisher, long start) {
            long hash = start;
            int names = state.names(fisher);
            for (int name = 0; name < names; name++) {
                for (int what = 0; what <= 4; what++) {
                    hash = 31 * hash + Tally.ofName(state, fisher, name, what);
                }
                hash = withKnots(state, fisher, name, hash);
            }
            return hash;
        }

        private static long withKnots(State state, int fisher, int name, long start) {
            long hash = start;
            int knots = state.knots(fisher, name);
            for (int knot = 0; knot < knots; knot++) {
                for (int what = 0; what <= 2; what++) {
                    hash = 31 * hash + Tally.ofKnot(state, fisher, name, knot, what);
                }
            }
            return hash;
        }

        static long withEntries(State state, long start) {
            long hash = start;
            int entries = state.at(State.ENTRIES);
            for (int entry = 0; entry < entries; entry++) {
                for (int what = 0; what <= 3; what++) {
                    hash = 31 * hash + Sea.ofEntry(state, entry, what);
                }
            }
            return hash;
        }

        static long withBuffer(Buffer buffer, long start) {
            long hash = 31 * start + buffer.size();
            for (int index = 0; index < buffer.size(); index++) {
                hash = 31 * hash + buffer.at(index);
            }
            return hash;
        }

        /**
         * The bits of a share from 0 to 1 as the machine holds a double: its power
         * of two from 1023 down, and in 52 bits what is behind the leading 1. Each
         * step is exact; the library's own function is not in LANGUAGE.md's list.
         */
        static long bitsOfShare(double share) {
            if (share <= 0.0) {
                return 0L;
            }
            double lead = share;
            long power = 1023L;
            while (lead < 1.0 && power > 1L) {
                lead = lead * 2.0;
                power--;
            }
            return (power << 52) + (long) ((lead - 1.0) * 4503599627370496.0);
        }
    }
}
