import java.util.Arrays;

/**
 * A drum machine: programs whose orders lie around a turning drum, their runs, the layings of their
 * words on the drum's spots, and questions about all of these. The document DOC.md says what each
 * call answers; its terms (NAME, SPOT, ROUND, ...) are used here in the same sense.
 */
public final class DrumCoder {
    public static final int NONE = -1;
    public static final int RANGE = -2;
    public static final int FULL = -3;
    public static final int STATE = -4;

    /** What calls answer that may tell any other int. */
    private static final int NO_NUMBER = -2147483647;

    private static final int MOST_NAMES = 40;
    private static final int MOST_TRACKS = 4;
    private static final int MOST_WORDS = 32;
    private static final int MOST_SPOTS = MOST_TRACKS * MOST_WORDS;
    private static final int SLOTS = 4;
    private static final int WIDEST_SPAN = 100;

    private static final int OP_STOP = 0;
    private static final int OP_LOAD = 1;
    private static final int OP_ADD = 2;
    private static final int OP_LESS = 3;
    private static final int OP_TIMES = 4;
    private static final int OP_STORE = 5;
    private static final int OP_NEG = 6;
    private static final int OP_ZERO = 7;
    private static final int OP_PRINT = 8;
    private static final int OP_HALVE = 9;

    private final Tape tape;
    private final Drum turning;
    private final DrumReader drumReader;
    private final Program words;
    private final ProgramReader programReader;
    private final Laying laying;
    private final Course course;
    private final Report report;
    private final Search search;
    private final Night jobs;

    public DrumCoder() {
        tape = new Tape();
        turning = new Drum();
        drumReader = new DrumReader(tape);
        words = new Program();
        programReader = new ProgramReader(tape);
        laying = new Laying(turning);
        course = new Course();
        report = new Report();
        search = new Search(turning, laying, course);
        jobs = new Night();
    }

    // ---- drum and program

    public int feed(int a, int b, int c, int d, int e) {
        if (!tape.hasRoomFor(20)) {
            return FULL;
        }
        tape.append(a);
        tape.append(b);
        tape.append(c);
        tape.append(d);
        tape.append(e);
        return tape.length;
    }

    public int end(int n) {
        if (n < 0 || n > tape.length) {
            return NONE;
        }
        tape.length = n;
        return n;
    }

    public int drum() {
        boolean told = drumReader.read();
        tape.length = 0;
        if (!told) {
            return NONE;
        }
        turning.copyFrom(drumReader.draft);
        if (turning.countSpots() < words.count) {
            words.clear();
        }
        startAfresh();
        return turning.countSpots();
    }

    public int program() {
        boolean told = programReader.read();
        tape.length = 0;
        if (!told) {
            return NONE;
        }
        if (programReader.draft.count > turning.countSpots()) {
            return FULL;
        }
        words.copyFrom(programReader.draft);
        startAfresh();
        return words.count;
    }

    public int fault(int what) {
        if (what == 0) {
            return tape.faultKind;
        }
        return what == 1 ? tape.faultPlace : NONE;
    }

    public int told(int what) {
        switch (what) {
            case 0:
                return turning.words;
            case 1:
                return turning.tracks;
            case 2:
                return turning.countSpots();
            case 3:
                return words.count;
            case 4:
                return words.entry;
            case 5:
                return jobs.count;
            case 6:
                return tape.length;
            default:
                return what < 10 || what >= 10 + turning.tracks ? NONE : turning.rounds[what - 10];
        }
    }

    public int value(int name) {
        return words.has(name) ? words.values[name] : NO_NUMBER;
    }

    public int set(int name, int v) {
        if (!words.has(name)) {
            return RANGE;
        }
        words.values[name] = v;
        return 1;
    }

    public int entry(int name) {
        if (!words.has(name)) {
            return RANGE;
        }
        int before = words.entry;
        words.entry = name;
        return before;
    }

    // ---- runs

    public int run() {
        if (words.count == 0) {
            return STATE;
        }
        course.follow(words);
        report.write(course, words, laying);
        return course.steps;
    }

    public int ran(int what) {
        return report.tellRun(what);
    }

    public int of(int name, int what) {
        return words.has(name) ? report.tellName(name, what) : NO_NUMBER;
    }

    public int needed() {
        return report.spotsNeeded;
    }

    // ---- layings

    public int spot(int name) {
        return words.has(name) ? laying.spots[name] : RANGE;
    }

    public int lay(int name, int spot) {
        if (!words.has(name) || !turning.hasSpot(spot)) {
            return RANGE;
        }
        int lying = laying.names[spot];
        if (laying.bad[spot] || (lying != NONE && lying != name)) {
            return STATE;
        }
        int before = laying.spots[name];
        laying.move(name, spot);
        return before;
    }

    public int spoil(int spot) {
        if (!turning.hasSpot(spot)) {
            return RANGE;
        }
        if (laying.bad[spot]) {
            return STATE;
        }
        laying.bad[spot] = true;
        return laying.names[spot];
    }

    public int time() {
        if (words.count == 0) {
            return STATE;
        }
        course.follow(words);
        return laying.timeOf(course);
    }

    public int place(int name) {
        if (!words.has(name)) {
            return RANGE;
        }
        course.follow(words);
        return search.findPlace(name);
    }

    public int mend() {
        if (words.count == 0) {
            return STATE;
        }
        course.follow(words);
        return search.leaveBadSpots();
    }

    public int exchange() {
        if (words.count == 0) {
            return STATE;
        }
        course.follow(words);
        return search.exchangePairs();
    }

    public int best(long set) {
        int size = Long.bitCount(set);
        if (size < 1 || size > Search.LONGEST_ROW || (set >>> words.count) != 0) {
            return RANGE;
        }
        if (!search.choose(set)) {
            return STATE;
        }
        course.follow(words);
        return search.layBestRow();
    }

    public int keep(int slot) {
        if (slot < 0 || slot >= SLOTS) {
            return RANGE;
        }
        if (words.count == 0) {
            return STATE;
        }
        laying.store(slot);
        return 1;
    }

    public int take(int slot) {
        if (slot < 0 || slot >= SLOTS) {
            return RANGE;
        }
        if (!laying.canRecall(slot)) {
            return STATE;
        }
        laying.recall(slot);
        course.follow(words);
        return laying.timeOf(course);
    }

    // ---- questions

    public int longest(int name, int from, int to, int what) {
        if (!words.has(name) || from > to || (long) to - from > WIDEST_SPAN) {
            return RANGE;
        }
        if (what != 0 && what != 1) {
            return NONE;
        }
        int before = words.values[name];
        int most = NONE;
        int with = from;
        for (int i = 0; i <= to - from; i++) {
            words.values[name] = from + i;
            course.follow(words);
            int time = course.ending == Course.STOPPED ? laying.timeOf(course) : NONE;
            if (time > most) {
                most = time;
                with = from + i;
            }
        }
        words.values[name] = before;
        if (most == NONE) {
            return STATE;
        }
        return what == 0 ? most : with;
    }

    public int step(int n, int gap) {
        if (n < 2 || n > 32 || gap < 1 || gap > 1000) {
            return RANGE;
        }
        return turning.tableStep(n, gap);
    }

    public int known(int name) {
        return words.has(name) ? words.kindOf(name) : RANGE;
    }

    public int job(int time, int due) {
        if (time < 1 || time > 9999 || due < 1 || due > 99999) {
            return RANGE;
        }
        return jobs.append(time, due);
    }

    public int night() {
        return jobs.bestSet();
    }

    /** A drum or a program that is told ends all that was known of layings and of the latest run. */
    private void startAfresh() {
        laying.begin(words.count);
        report.clear();
    }

    /** The bytes that were fed, read as tokens one by one, and the fault that was come to. */
    private static final class Tape {
        static final int SYNTAX = 1;
        static final int OUT_OF_RANGE = 2;
        static final int TWICE = 3;
        static final int ROOM = 4;
        static final int UNKNOWN = 5;

        // a sign's kind is its own byte, so these lie below all signs
        static final int AT_END = 0;
        static final int WORD = 1;
        static final int NUMBER = 2;
        static final int NO_TOKEN = 3;

        private static final int MOST_BYTES = 1200;
        private static final int MOST_LETTERS = 6;
        private static final int MOST_DIGITS = 9;

        final byte[] bytes = new byte[MOST_BYTES];
        int length;
        int position;
        /** Of the token that was read last: what it is, where it begins, its word's code or number. */
        int kind;
        int start;
        int content;
        int faultKind;
        int faultPlace = NONE;

        boolean hasRoomFor(int more) {
            return length + more <= MOST_BYTES;
        }

        void append(int four) {
            for (int shift = 24; shift >= 0 && length >= 0 && length < MOST_BYTES; shift -= 8) {
                bytes[length] = (byte) (four >>> shift);
                length++;
            }
        }

        void rewind() {
            position = 0;
            faultKind = 0;
            faultPlace = NONE;
            advance();
        }

        /** Reads the next token. */
        void advance() {
            int next = byteAt(position);
            while (position < length && (next == ' ' || next == '\n')) {
                position++;
                next = byteAt(position);
            }
            start = position;
            if (next == NONE) {
                kind = AT_END;
            } else if (isLetter(next)) {
                readWord();
            } else if (isDigit(next)) {
                readNumber();
            } else {
                kind = next == ':' || next == ';' || next == '=' || next == '-' ? next : NO_TOKEN;
                position++;
            }
        }

        private void readWord() {
            content = 0;
            int next = byteAt(position);
            while (position < length && isLetter(next)) {
                content = codeWith(content, next);
                position++;
                next = byteAt(position);
            }
            kind = position - start > MOST_LETTERS ? NO_TOKEN : WORD;
        }

        private void readNumber() {
            content = 0;
            int next = byteAt(position);
            while (position < length && isDigit(next)) {
                content = content * 10 + next - '0';
                position++;
                next = byteAt(position);
            }
            kind = position - start > MOST_DIGITS ? NO_TOKEN : NUMBER;
        }

        private int byteAt(int i) {
            return i < 0 || i >= length || i >= MOST_BYTES ? NONE : bytes[i] & 255;
        }

        private static boolean isLetter(int sign) {
            return sign >= 'a' && sign <= 'z';
        }

        private static boolean isDigit(int sign) {
            return sign >= '0' && sign <= '9';
        }

        /** Six letters of five bits fit into an int, so a word's code stands for the word itself. */
        private static int codeWith(int code, int letter) {
            return code * 32 + letter - 'a' + 1;
        }

        boolean isWord(String text) {
            if (kind != WORD) {
                return false;
            }
            int code = 0;
            for (int i = 0; i < text.length(); i++) {
                code = codeWith(code, text.charAt(i));
            }
            return code == content;
        }

        /** Goes past the token if it is of this kind; otherwise it is a fault. */
        boolean pass(int wanted) {
            if (kind != wanted) {
                return fail(SYNTAX, start);
            }
            advance();
            return true;
        }

        /** Always false, so that who reads can end with it. */
        boolean fail(int fault, int place) {
            faultKind = fault;
            faultPlace = place;
            return false;
        }
    }

    /** How many words lie around the drum, and what its tracks are like. */
    private static final class Drum {
        private static final int FIRST_WORDS = 16;

        int words;
        int tracks;
        final int[] rounds = new int[MOST_TRACKS];
        /** How many places of each track are there. */
        final int[] places = new int[MOST_TRACKS];

        Drum() {
            words = FIRST_WORDS;
            tracks = 2;
            rounds[0] = FIRST_WORDS;
            rounds[1] = FIRST_WORDS;
            places[0] = FIRST_WORDS;
            places[1] = FIRST_WORDS;
        }

        void copyFrom(Drum other) {
            words = other.words;
            tracks = other.tracks;
            for (int i = 0; i < MOST_TRACKS; i++) {
                rounds[i] = other.rounds[i];
                places[i] = other.places[i];
            }
        }

        void addTrack(int round, int room) {
            if (tracks >= 0 && tracks < MOST_TRACKS) {
                rounds[tracks] = round;
                places[tracks] = room;
                tracks++;
            }
        }

        int countSpots() {
            int count = 0;
            for (int i = 0; i < tracks && i < MOST_TRACKS; i++) {
                count += places[i];
            }
            return count;
        }

        /** Above every spot's number. */
        int spotsEnd() {
            return Math.min(MOST_SPOTS, words * tracks);
        }

        boolean hasSpot(int spot) {
            return spot >= 0 && spot < spotsEnd() && placeOf(spot) < places[trackOf(spot)];
        }

        int roundOf(int spot) {
            return rounds[trackOf(spot)];
        }

        private int trackOf(int spot) {
            int track = words < 1 ? 0 : spot / words;
            return track < 0 || track >= MOST_TRACKS ? 0 : track;
        }

        int placeOf(int spot) {
            return words < 1 ? 0 : spot % words;
        }

        int tableStep(int n, int gap) {
            int best = NONE;
            int leastWait = MOST_WORDS;
            for (int apart = 1; apart < words; apart++) {
                int wait = Math.floorMod(apart - gap, words);
                if (wait < leastWait && unlikePlaces(apart) >= n) {
                    best = apart;
                    leastWait = wait;
                }
            }
            return best;
        }

        /** How many words can lie so far apart before one comes to the place of the first. */
        private int unlikePlaces(int apart) {
            int count = 1;
            int place = apart;
            while (count < words && place != 0) {
                place = (place + apart) % words;
                count++;
            }
            return count;
        }
    }

    /** Reads the tape as a drum; the draft is one only if read() told true. */
    private static final class DrumReader {
        private static final int FEWEST_WORDS = 8;

        private final Tape tape;
        final Drum draft = new Drum();

        DrumReader(Tape tape) {
            this.tape = tape;
        }

        boolean read() {
            tape.rewind();
            draft.tracks = 0;
            if (!readWords() || !readTrack()) {
                return false;
            }
            for (int i = 1; i <= MOST_TRACKS && tape.kind != Tape.AT_END; i++) {
                if (!readTrack()) {
                    return false;
                }
            }
            return true;
        }

        private boolean readWords() {
            if (!tape.isWord("words")) {
                return tape.fail(Tape.SYNTAX, tape.start);
            }
            tape.advance();
            if (!numberIsWithin(FEWEST_WORDS, MOST_WORDS)) {
                return false;
            }
            draft.words = tape.content;
            tape.advance();
            return tape.pass(';');
        }

        private boolean readTrack() {
            boolean isMany = tape.isWord("many");
            boolean isQuick = tape.isWord("quick");
            if (!isMany && !isQuick && !tape.isWord("long")) {
                return tape.fail(Tape.SYNTAX, tape.start);
            }
            if (draft.tracks >= MOST_TRACKS) {
                return tape.fail(Tape.ROOM, tape.start);
            }
            tape.advance();
            if (isMany) {
                return readHeads();
            }
            if (isQuick) {
                return readQuickWords();
            }
            draft.addTrack(draft.words, draft.words);
            return tape.pass(';');
        }

        private boolean readHeads() {
            if (!numberIsWithin(2, 4)) {
                return false;
            }
            int heads = tape.content;
            if (heads < 2 || heads == 3 || draft.words % heads != 0) {
                return tape.fail(Tape.OUT_OF_RANGE, tape.start);
            }
            draft.addTrack(draft.words / heads, draft.words);
            tape.advance();
            return tape.pass(';');
        }

        private boolean readQuickWords() {
            if (!numberIsWithin(2, Math.min(8, draft.words))) {
                return false;
            }
            draft.addTrack(tape.content, tape.content);
            tape.advance();
            return tape.pass(';');
        }

        private boolean numberIsWithin(int least, int most) {
            if (tape.kind != Tape.NUMBER) {
                return tape.fail(Tape.SYNTAX, tape.start);
            }
            if (tape.content < least || tape.content > most) {
                return tape.fail(Tape.OUT_OF_RANGE, tape.start);
            }
            return true;
        }
    }

    /** The values of all names, where a run enters, and what a value is as an order. */
    private static final class Program {
        private static final int AS_ORDER = 1;
        private static final int AS_NUMBER = 2;

        int count;
        int entry;
        final int[] values = new int[MOST_NAMES];
        private final int[] kinds = new int[MOST_NAMES];
        private final int[] reached = new int[MOST_NAMES];
        private int reachedCount;

        void clear() {
            count = 0;
            entry = 0;
        }

        void copyFrom(Program other) {
            count = other.count;
            entry = 0;
            System.arraycopy(other.values, 0, values, 0, MOST_NAMES);
        }

        boolean has(int name) {
            return name >= 0 && name < count && name < MOST_NAMES;
        }

        static int opOf(int order) {
            return order / 10000;
        }

        static int wordOf(int order) {
            return order / 100 % 100;
        }

        static int nextOf(int order) {
            return order % 100;
        }

        static boolean readsWord(int op) {
            return op >= OP_LOAD && op <= OP_STORE;
        }

        boolean isOrder(int number) {
            return number >= 0 && opOf(number) <= OP_HALVE && has(wordOf(number)) && has(nextOf(number));
        }

        int kindOf(int name) {
            Arrays.fill(kinds, 0);
            reachedCount = 0;
            reach(entry);
            for (int i = 0; i < reachedCount && i < MOST_NAMES; i++) {
                followOrder(values[reached[i]]);
            }
            return kinds[name];
        }

        private void followOrder(int order) {
            int op = opOf(order);
            int word = wordOf(order);
            if (op != OP_STOP) {
                reach(nextOf(order));
            }
            if (op == OP_NEG || op == OP_ZERO) {
                reach(word);
            }
            if (readsWord(op) && has(word)) {
                kinds[word] |= AS_NUMBER;
            }
        }

        private void reach(int name) {
            if (!has(name) || (kinds[name] & AS_ORDER) != 0 || !isOrder(values[name])) {
                return;
            }
            kinds[name] |= AS_ORDER;
            if (reachedCount >= 0 && reachedCount < MOST_NAMES) {
                reached[reachedCount] = name;
                reachedCount++;
            }
        }
    }

    /** Reads the tape as a program; the draft is one only if read() told true. */
    private static final class ProgramReader {
        private static final int NO_ORDER = -1;

        private final Tape tape;
        final Program draft = new Program();
        /** Codes of the words ahead of : or =, behind an op, and behind "to"; 0 where there is none. */
        private final int[] nameCodes = new int[MOST_NAMES];
        private final int[] wordCodes = new int[MOST_NAMES];
        private final int[] nextCodes = new int[MOST_NAMES];
        private final int[] wordPlaces = new int[MOST_NAMES];
        private final int[] nextPlaces = new int[MOST_NAMES];
        private final int[] ops = new int[MOST_NAMES];

        ProgramReader(Tape tape) {
            this.tape = tape;
        }

        boolean read() {
            tape.rewind();
            draft.clear();
            for (int i = 0; i <= MOST_NAMES && tape.kind != Tape.AT_END; i++) {
                if (!readLine()) {
                    return false;
                }
            }
            for (int i = 0; i < draft.count && i < MOST_NAMES; i++) {
                if (ops[i] != NO_ORDER && !resolve(i)) {
                    return false;
                }
            }
            return true;
        }

        private boolean readLine() {
            if (tape.kind != Tape.WORD) {
                return tape.fail(Tape.SYNTAX, tape.start);
            }
            if (find(tape.content) != NONE) {
                return tape.fail(Tape.TWICE, tape.start);
            }
            int line = draft.count;
            if (line < 0 || line >= MOST_NAMES) {
                return tape.fail(Tape.ROOM, tape.start);
            }
            nameCodes[line] = tape.content;
            draft.count++;
            tape.advance();
            if (tape.kind == '=') {
                return readNumberLine(line);
            }
            return tape.pass(':') && readOrderLine(line);
        }

        private boolean readNumberLine(int line) {
            ops[line] = NO_ORDER;
            tape.advance();
            boolean isBelowZero = tape.kind == '-';
            if (isBelowZero) {
                tape.advance();
            }
            draft.values[line] = isBelowZero ? -tape.content : tape.content;
            return tape.pass(Tape.NUMBER) && tape.pass(';');
        }

        private boolean readOrderLine(int line) {
            int op = opOnTape();
            if (op == NO_ORDER) {
                return tape.fail(Tape.SYNTAX, tape.start);
            }
            ops[line] = op;
            wordCodes[line] = 0;
            nextCodes[line] = 0;
            tape.advance();
            if (op >= OP_LOAD && op <= OP_ZERO) {
                wordCodes[line] = tape.content;
                wordPlaces[line] = tape.start;
                if (!tape.pass(Tape.WORD)) {
                    return false;
                }
            }
            if (tape.isWord("to")) {
                tape.advance();
                nextCodes[line] = tape.content;
                nextPlaces[line] = tape.start;
                if (!tape.pass(Tape.WORD)) {
                    return false;
                }
            }
            return tape.pass(';');
        }

        private int opOnTape() {
            if (tape.isWord("stop")) {
                return OP_STOP;
            }
            if (tape.isWord("load")) {
                return OP_LOAD;
            }
            if (tape.isWord("add")) {
                return OP_ADD;
            }
            if (tape.isWord("less")) {
                return OP_LESS;
            }
            if (tape.isWord("times")) {
                return OP_TIMES;
            }
            if (tape.isWord("store")) {
                return OP_STORE;
            }
            if (tape.isWord("neg")) {
                return OP_NEG;
            }
            if (tape.isWord("zero")) {
                return OP_ZERO;
            }
            if (tape.isWord("print")) {
                return OP_PRINT;
            }
            return tape.isWord("halve") ? OP_HALVE : NO_ORDER;
        }

        /** Makes the value of an order, when all names are known. */
        private boolean resolve(int line) {
            int word = wordCodes[line] == 0 ? 0 : find(wordCodes[line]);
            if (word == NONE) {
                return tape.fail(Tape.UNKNOWN, wordPlaces[line]);
            }
            int next = Math.min(line + 1, draft.count - 1);
            if (nextCodes[line] != 0) {
                next = find(nextCodes[line]);
            }
            if (next == NONE) {
                return tape.fail(Tape.UNKNOWN, nextPlaces[line]);
            }
            draft.values[line] = ops[line] * 10000 + word * 100 + next;
            return true;
        }

        private int find(int code) {
            for (int i = 0; i < draft.count && i < MOST_NAMES; i++) {
                if (nameCodes[i] == code) {
                    return i;
                }
            }
            return NONE;
        }
    }

    /** A run, step by step. It hangs on no laying, so one course serves to time many layings. */
    private static final class Course {
        static final int STOPPED = 0;
        static final int WRONG = 1;
        static final int LATE = 2;
        static final int MOST_STEPS = 2000;
        static final int MOST_PRINTED = 100;

        // a step is one int: the name, the word or NO_WORD, and what it takes beside reading these
        private static final int NAME_BITS = 6;
        private static final int NAME_MASK = 63;
        static final int NO_WORD = 63;

        final int[] trace = new int[MOST_STEPS];
        final int[] values = new int[MOST_NAMES];
        final int[] printed = new int[MOST_PRINTED];
        int steps;
        int ending;
        int sum;
        int at;
        int printedCount;

        void follow(Program program) {
            System.arraycopy(program.values, 0, values, 0, MOST_NAMES);
            steps = 0;
            ending = LATE;
            sum = 0;
            at = program.entry;
            printedCount = 0;
            while (ending == LATE && steps < MOST_STEPS) {
                goStep(program);
                steps++;
            }
        }

        private void goStep(Program program) {
            int order = program.has(at) ? values[at] : NONE;
            if (!program.isOrder(order)) {
                ending = WRONG;
                note(at, NO_WORD, 0);
                return;
            }
            int op = Program.opOf(order);
            int word = Program.wordOf(order);
            int next = Program.nextOf(order);
            note(at, Program.readsWord(op) ? word : NO_WORD, extraTime(op, word));
            if (op == OP_STOP) {
                ending = STOPPED;
                return;
            }
            work(op, word);
            boolean goesToWord = (op == OP_NEG && sum < 0) || (op == OP_ZERO && sum == 0);
            at = goesToWord ? word : next;
        }

        private void note(int name, int word, int extra) {
            if (steps >= 0 && steps < MOST_STEPS) {
                trace[steps] = name | word << NAME_BITS | extra << (2 * NAME_BITS);
            }
        }

        private int extraTime(int op, int word) {
            if (op == OP_TIMES && word >= 0 && word < MOST_NAMES) {
                return 2 + Integer.bitCount(values[word]);
            }
            return op == OP_PRINT ? 3 : 0;
        }

        private void work(int op, int word) {
            if (word < 0 || word >= MOST_NAMES) {
                return;
            }
            switch (op) {
                case OP_LOAD:
                    sum = values[word];
                    break;
                case OP_ADD:
                    sum += values[word];
                    break;
                case OP_LESS:
                    sum -= values[word];
                    break;
                case OP_TIMES:
                    sum *= values[word];
                    break;
                case OP_STORE:
                    values[word] = sum;
                    break;
                case OP_PRINT:
                    print();
                    break;
                case OP_HALVE:
                    sum /= 2;
                    break;
                default:
                    break;
            }
        }

        private void print() {
            if (printedCount >= 0 && printedCount < MOST_PRINTED) {
                printed[printedCount] = sum;
            }
            printedCount++;
        }

        static int nameIn(int step) {
            return step & NAME_MASK;
        }

        static int wordIn(int step) {
            return step >> NAME_BITS & NAME_MASK;
        }

        static int extraIn(int step) {
            return step >> (2 * NAME_BITS);
        }
    }

    /** What run() told: it stays as it was, whatever comes to the program and the laying. */
    private static final class Report {
        private boolean written;
        private int ending;
        private int sum;
        private int at;
        private int printedCount;
        private int time;
        private int leastTime;
        int spotsNeeded;
        private final int[] printed = new int[Course.MOST_PRINTED];
        private final int[] asOrder = new int[MOST_NAMES];
        private final int[] asWord = new int[MOST_NAMES];
        private final int[] waits = new int[MOST_NAMES];
        private final int[] values = new int[MOST_NAMES];
        private final int[] changed = new int[MOST_NAMES];
        private final int[] firsts = new int[MOST_NAMES];
        private final int[] lasts = new int[MOST_NAMES];
        private final int[] shares = new int[MOST_NAMES];
        /** Shares that a name can't have, while one is sought for it. */
        private final int[] taken = new int[MOST_NAMES];

        void clear() {
            written = false;
            spotsNeeded = 0;
        }

        void write(Course course, Program program, Laying laying) {
            written = true;
            ending = course.ending;
            sum = course.sum;
            at = course.at;
            printedCount = course.printedCount;
            System.arraycopy(course.printed, 0, printed, 0, Course.MOST_PRINTED);
            for (int i = 0; i < MOST_NAMES; i++) {
                values[i] = course.values[i];
                changed[i] = course.values[i] != program.values[i] ? 1 : 0;
            }
            Arrays.fill(asOrder, 0);
            Arrays.fill(asWord, 0);
            Arrays.fill(waits, 0);
            Arrays.fill(firsts, NONE);
            Arrays.fill(lasts, NONE);
            countSteps(course, laying);
            shareSpots();
        }

        private void countSteps(Course course, Laying laying) {
            time = 0;
            leastTime = 0;
            for (int i = 0; i < course.steps && i < Course.MOST_STEPS; i++) {
                int step = course.trace[i];
                int name = Course.nameIn(step);
                int word = Course.wordIn(step);
                meet(name, i, laying);
                if (name < MOST_NAMES) {
                    asOrder[name]++;
                }
                if (word < MOST_NAMES) {
                    meet(word, i, laying);
                    asWord[word]++;
                }
                time += Course.extraIn(step);
                leastTime += Course.extraIn(step);
            }
        }

        /** A name is waited for and read, or stored, in a step. */
        private void meet(int name, int step, Laying laying) {
            if (name < 0 || name >= MOST_NAMES) {
                return;
            }
            int wait = laying.waitFor(name, time);
            waits[name] += wait;
            time += wait + 1;
            leastTime++;
            if (firsts[name] == NONE) {
                firsts[name] = step;
            }
            lasts[name] = step;
        }

        private void shareSpots() {
            Arrays.fill(shares, NONE);
            spotsNeeded = 0;
            for (int i = 0; i < MOST_NAMES; i++) {
                int name = nextToShare();
                if (name == NONE) {
                    break;
                }
                shares[name] = leastFreeShare(name);
                spotsNeeded = Math.max(spotsNeeded, shares[name] + 1);
            }
        }

        private int nextToShare() {
            int found = NONE;
            for (int i = 0; i < MOST_NAMES; i++) {
                boolean waiting = firsts[i] != NONE && shares[i] == NONE;
                if (waiting && (found == NONE || firsts[i] < firsts[found])) {
                    found = i;
                }
            }
            return found;
        }

        private int leastFreeShare(int name) {
            Arrays.fill(taken, 0);
            for (int i = 0; i < MOST_NAMES; i++) {
                boolean meets = firsts[i] <= lasts[name] && firsts[name] <= lasts[i];
                if (meets && shares[i] >= 0 && shares[i] < MOST_NAMES) {
                    taken[shares[i]] = 1;
                }
            }
            int share = 0;
            while (share < MOST_NAMES && taken[share] != 0) {
                share++;
            }
            return share;
        }

        int tellRun(int what) {
            if (!written) {
                return NO_NUMBER;
            }
            switch (what) {
                case 0:
                    return ending;
                case 1:
                    return sum;
                case 2:
                    return at;
                case 3:
                    return printedCount;
                case 4:
                    return time;
                case 5:
                    return leastTime;
                default:
                    return tellPrinted(what);
            }
        }

        private int tellPrinted(int what) {
            if (what < 100 || what >= 100 + Course.MOST_PRINTED || what - 100 >= printedCount) {
                return NO_NUMBER;
            }
            return printed[what - 100];
        }

        int tellName(int name, int what) {
            if (!written || name < 0 || name >= MOST_NAMES) {
                return NO_NUMBER;
            }
            switch (what) {
                case 0:
                    return asOrder[name];
                case 1:
                    return asWord[name];
                case 2:
                    return waits[name];
                case 3:
                    return values[name];
                case 4:
                    return firsts[name];
                case 5:
                    return lasts[name];
                case 6:
                    return changed[name];
                case 7:
                    return shares[name];
                default:
                    return NO_NUMBER;
            }
        }
    }

    /** Which name lies on which spot, which spots are bad, and what a course takes by it. */
    private static final class Laying {
        // a name in a step has six bits, so no name of a step lies beyond these rows
        private static final int ROW = 64;

        private final Drum drum;
        private int count;
        final int[] spots = new int[ROW];
        final int[] phases = new int[ROW];
        final int[] rounds = new int[ROW];
        final int[] names = new int[MOST_SPOTS];
        final boolean[] bad = new boolean[MOST_SPOTS];
        private final int[][] kept = new int[SLOTS][MOST_NAMES];
        private final boolean[] isKept = new boolean[SLOTS];

        Laying(Drum drum) {
            this.drum = drum;
            Arrays.fill(names, NONE);
            Arrays.fill(rounds, 1);
        }

        void begin(int nameCount) {
            count = 0;
            for (int slot = 0; slot < SLOTS; slot++) {
                isKept[slot] = false;
            }
            for (int spot = 0; spot < MOST_SPOTS; spot++) {
                bad[spot] = false;
                names[spot] = NONE;
                if (count < nameCount && count < MOST_NAMES && drum.hasSpot(spot)) {
                    put(count, spot);
                    count++;
                }
            }
        }

        int countNames() {
            return count;
        }

        /** Where the name lay, nothing is changed. */
        void put(int name, int spot) {
            if (name < 0 || name >= MOST_NAMES || spot < 0 || spot >= MOST_SPOTS) {
                return;
            }
            spots[name] = spot;
            names[spot] = name;
            int round = drum.roundOf(spot);
            if (round > 0) {
                rounds[name] = round;
                phases[name] = drum.placeOf(spot) % round;
            }
        }

        void move(int name, int spot) {
            if (name < 0 || name >= MOST_NAMES || spots[name] < 0 || spots[name] >= MOST_SPOTS) {
                return;
            }
            names[spots[name]] = NONE;
            put(name, spot);
        }

        void swap(int one, int other) {
            if (one < 0 || one >= MOST_NAMES || other < 0 || other >= MOST_NAMES) {
                return;
            }
            int spot = spots[one];
            put(one, spots[other]);
            put(other, spot);
        }

        boolean liesOnBad(int name) {
            if (name < 0 || name >= MOST_NAMES) {
                return false;
            }
            int spot = spots[name];
            return spot >= 0 && spot < MOST_SPOTS && bad[spot];
        }

        boolean alikeInTime(int one, int other) {
            return phases[one] == phases[other] && rounds[one] == rounds[other];
        }

        int waitFor(int name, int time) {
            int round = rounds[name];
            return round < 1 ? 0 : Math.floorMod(phases[name] - time, round);
        }

        int timeOf(Course course) {
            int time = 0;
            for (int i = 0; i < course.steps && i < Course.MOST_STEPS; i++) {
                int step = course.trace[i];
                time += waitFor(Course.nameIn(step), time) + 1;
                int word = Course.wordIn(step);
                if (word != Course.NO_WORD) {
                    time += waitFor(word, time) + 1;
                }
                time += Course.extraIn(step);
            }
            return time;
        }

        void store(int slot) {
            System.arraycopy(spots, 0, kept[slot], 0, MOST_NAMES);
            isKept[slot] = true;
        }

        boolean canRecall(int slot) {
            if (!isKept[slot]) {
                return false;
            }
            for (int i = 0; i < count && i < MOST_NAMES; i++) {
                int spot = kept[slot][i];
                if (spot < 0 || spot >= MOST_SPOTS || bad[spot]) {
                    return false;
                }
            }
            return true;
        }

        void recall(int slot) {
            Arrays.fill(names, NONE);
            for (int i = 0; i < count && i < MOST_NAMES; i++) {
                put(i, kept[slot][i]);
            }
        }
    }

    /** Better layings for the course that was followed last. */
    private static final class Search {
        static final int LONGEST_ROW = 6;
        private static final int MOST_ROUNDS = 20;
        /** All orders of six. */
        private static final int MOST_ROWS = 720;

        private final Drum drum;
        private final Laying laying;
        private final Course course;
        private int chosen;
        private final int[] rowNames = new int[LONGEST_ROW];
        private final int[] rowSpots = new int[LONGEST_ROW];
        private final int[] bestSpots = new int[LONGEST_ROW];

        Search(Drum drum, Laying laying, Course course) {
            this.drum = drum;
            this.laying = laying;
            this.course = course;
        }

        int findPlace(int name) {
            int own = laying.spots[name];
            int best = NONE;
            int leastTime = 0;
            int end = drum.spotsEnd();
            for (int spot = 0; spot < end && spot < MOST_SPOTS; spot++) {
                boolean open = spot == own || laying.names[spot] == NONE;
                if (!open || laying.bad[spot] || !drum.hasSpot(spot)) {
                    continue;
                }
                laying.move(name, spot);
                int time = laying.timeOf(course);
                laying.move(name, own);
                if (best == NONE || time < leastTime) {
                    best = spot;
                    leastTime = time;
                }
            }
            return best;
        }

        int leaveBadSpots() {
            int moved = 0;
            for (int name = 0; name < laying.countNames(); name++) {
                int spot = laying.liesOnBad(name) ? findPlace(name) : NONE;
                if (spot != NONE) {
                    laying.move(name, spot);
                    moved++;
                }
            }
            return moved;
        }

        int exchangePairs() {
            int time = laying.timeOf(course);
            for (int round = 0; round < MOST_ROUNDS; round++) {
                int after = exchangeOnce(time);
                if (after == time) {
                    break;
                }
                time = after;
            }
            return time;
        }

        private int exchangeOnce(int timeBefore) {
            int time = timeBefore;
            int count = laying.countNames();
            for (int one = 0; one < count; one++) {
                for (int other = one + 1; other < count && !laying.liesOnBad(one); other++) {
                    if (!laying.liesOnBad(other)) {
                        time = exchangeIfLess(one, other, time);
                    }
                }
            }
            return time;
        }

        private int exchangeIfLess(int one, int other, int timeBefore) {
            // spots that come at the same times can't make a run shorter
            if (laying.alikeInTime(one, other)) {
                return timeBefore;
            }
            laying.swap(one, other);
            int time = laying.timeOf(course);
            if (time < timeBefore) {
                return time;
            }
            laying.swap(one, other);
            return timeBefore;
        }

        /** Sets the row up, its spots rising; false if one of the names lies on a bad spot. */
        boolean choose(long set) {
            chosen = 0;
            for (int name = 0; name < laying.countNames(); name++) {
                if ((set >>> name & 1L) == 0L || chosen < 0 || chosen >= LONGEST_ROW) {
                    continue;
                }
                if (laying.liesOnBad(name)) {
                    return false;
                }
                rowNames[chosen] = name;
                sortIn(laying.spots[name]);
                chosen++;
            }
            return true;
        }

        private void sortIn(int spot) {
            int i = chosen;
            while (i > 0 && i < LONGEST_ROW && rowSpots[i - 1] > spot) {
                rowSpots[i] = rowSpots[i - 1];
                i--;
            }
            if (i >= 0 && i < LONGEST_ROW) {
                rowSpots[i] = spot;
            }
        }

        /** Rows come in rising order, so of those with the least time the first is the least. */
        int layBestRow() {
            int leastTime = NONE;
            boolean more = true;
            for (int i = 0; i < MOST_ROWS && more; i++) {
                layRow(rowSpots);
                int time = laying.timeOf(course);
                if (leastTime == NONE || time < leastTime) {
                    leastTime = time;
                    System.arraycopy(rowSpots, 0, bestSpots, 0, LONGEST_ROW);
                }
                more = nextRow();
            }
            layRow(bestSpots);
            return leastTime;
        }

        private void layRow(int[] row) {
            for (int i = 0; i < chosen && i < LONGEST_ROW && i < row.length; i++) {
                laying.put(rowNames[i], row[i]);
            }
        }

        private boolean nextRow() {
            int low = Math.min(chosen, LONGEST_ROW) - 2;
            while (low >= 0 && rowSpots[low] > rowSpots[low + 1]) {
                low--;
            }
            if (low < 0) {
                return false;
            }
            int high = Math.min(chosen, LONGEST_ROW) - 1;
            while (high > low && rowSpots[high] < rowSpots[low]) {
                high--;
            }
            swapSpots(low, high);
            int left = low + 1;
            int right = Math.min(chosen, LONGEST_ROW) - 1;
            while (left < right) {
                swapSpots(left, right);
                left++;
                right--;
            }
            return true;
        }

        private void swapSpots(int one, int other) {
            int spot = rowSpots[one];
            rowSpots[one] = rowSpots[other];
            rowSpots[other] = spot;
        }
    }

    /** The jobs of a night and which of them can be done by their dues. */
    private static final class Night {
        private static final int MOST_JOBS = 8;

        int count;
        private final int[] times = new int[MOST_JOBS];
        private final int[] dues = new int[MOST_JOBS];
        /** The jobs by rising dues: if a set can be done at all, it can be in this order. */
        private final int[] byDue = new int[MOST_JOBS];

        int append(int time, int due) {
            if (count < 0 || count >= MOST_JOBS) {
                return FULL;
            }
            times[count] = time;
            dues[count] = due;
            int i = count;
            while (i > 0 && dues[byDue[i - 1]] > due) {
                byDue[i] = byDue[i - 1];
                i--;
            }
            byDue[i] = count;
            count++;
            return count - 1;
        }

        int bestSet() {
            int best = 0;
            int mostJobs = 0;
            int leastTime = 0;
            int end = 1 << Math.min(count, MOST_JOBS);
            for (int set = 1; set < end; set++) {
                int jobs = Integer.bitCount(set);
                int time = jobs < mostJobs ? NONE : timeIfDone(set);
                if (time != NONE && (jobs > mostJobs || time < leastTime)) {
                    best = set;
                    mostJobs = jobs;
                    leastTime = time;
                }
            }
            return best;
        }

        /** What the set takes in all; NONE if one of it comes behind its due. */
        private int timeIfDone(int set) {
            int time = 0;
            for (int i = 0; i < count && i < MOST_JOBS; i++) {
                int job = byDue[i];
                if ((set >> job & 1) == 0) {
                    continue;
                }
                time += times[job];
                if (time > dues[job]) {
                    return NONE;
                }
            }
            return time;
        }
    }
}
