import java.util.Arrays;

/** A bench for things made for many hands; README.md says how to use it. */
public final class ManyHands {
    private static final int BEYOND = 0;
    private static final int FULL = 1;
    private static final int KIND = 2;
    private static final int NONE = 3;
    private static final int STATE = 4;
    private static final int MISSING = 5;
    private static final int SIZE = 6;

    private static final int CELLS = 3;
    private static final int VALUES = 4;
    private static final int MOST_CALLS = 6;
    private static final int MOST_STEPS = 7;
    private static final int MOST_HANDS = 3;
    private static final int MOST_BYTES = 120;
    private static final int MOST_STATES = 6000;
    private static final int MOST_ORDERS = 90;
    private static final int MOST_FENCES = 6;
    private static final int SHEETS = 4;
    private static final int MOST_NUMBERS = 40;

    private static final int READ = 1;
    private static final int WRITE = 2;
    private static final int SWAP = 3;
    private static final int ADD = 4;
    private static final int FENCE = 5;
    private static final int AGAIN = 6;
    private static final int SET = 7;
    /** The kind that each kind stands right under; -1 for the one at the top. */
    private static final int[] UNDER = {-1, 0, 0, 0, SWAP, 0, 0, 0};

    /** A STEP is a row of parts, numbered as the promise of step() numbers them. */
    private static final int PARTS = 5;
    private static final int CELL_PART = 1;
    private static final int VALUE_PART = 2;
    private static final int SECOND_PART = 3;
    private static final int GOAL_PART = 4;
    /** Which parts a STEP of each kind has, as bits. */
    private static final int[] PARTS_OF_KIND = {1, 3, 7, 15, 7, 1, 17, 5};

    /** Moves are counted inside by the bits of moves(): a HAND's STEP, then 3 + its oldest write. */
    private static final int MOVE_KINDS = 2 * MOST_HANDS;
    private static final long CANNOT = -1L;

    private final Findings findings;
    private final Reader reader;
    private final Tape tape;
    private final Study study;
    private final Setup now;
    private final Setup kept;
    private boolean isKept;
    private final Play play;
    private final Sheet[] sheets;

    public ManyHands() {
        findings = new Findings();
        reader = new Reader();
        tape = reader.tape;
        study = new Study();
        now = study.setup;
        kept = new Setup();
        isKept = false;
        play = new Play();
        sheets = new Sheet[SHEETS];
        for (int s = 0; s < SHEETS; s++) {
            sheets[s] = new Sheet();
        }
    }

    // ---- calls

    public int feed(int bytes, int n) {
        if (n < 1 || n > 4) {
            return findings.tell(BEYOND);
        }
        if (tape.size + n > MOST_BYTES) {
            return findings.tell(FULL);
        }
        tape.append(bytes, n);
        return tape.size;
    }

    public int wipe() {
        int had = tape.size;
        tape.size = 0;
        return had;
    }

    public int text() {
        if (now.calls >= MOST_CALLS) {
            return findings.tell(FULL);
        }
        int fault = reader.faultOfNewCall(now);
        if (fault >= 0) {
            return -1 - fault;
        }
        tape.size = 0;
        study.forget();
        return now.calls - 1;
    }

    public int steps(int call) {
        return now.hasCall(call) ? now.lengths[call] : findings.tell(BEYOND);
    }

    public int step(int call, int step, int what) {
        if (!now.hasStep(call, step) || what < 0 || what >= PARTS) {
            return findings.tell(BEYOND);
        }
        int parts = PARTS_OF_KIND[now.partOf(call, step, 0)];
        if ((parts >> what & 1) == 0) {
            return findings.tell(KIND);
        }
        return now.partOf(call, step, what);
    }

    public int as(int call, int step, int kind) {
        if (!now.hasStep(call, step) || kind < 0 || kind >= UNDER.length) {
            return findings.tell(BEYOND);
        }
        int own = now.partOf(call, step, 0);
        return isUnder(own, kind) ? own : findings.tell(KIND);
    }

    public int change(int call, int step, int v) {
        if (!now.hasStep(call, step) || !isValue(v)) {
            return findings.tell(BEYOND);
        }
        int part = now.changeablePart(call, step);
        if (part < 0) {
            return findings.tell(KIND);
        }
        int was = now.partOf(call, step, part);
        now.putPart(call, step, part, v);
        study.forget();
        return was;
    }

    // ---- the machine, hands

    public int cell(int cell, int v) {
        if (cell < 0 || cell >= CELLS || !isValue(v)) {
            return findings.tell(BEYOND);
        }
        int was = now.firstValues[cell];
        now.firstValues[cell] = v;
        study.forget();
        return was;
    }

    public int machine(int m) {
        if (m < 0 || m > 1) {
            return findings.tell(BEYOND);
        }
        int was = now.machineNumber;
        now.machineNumber = m;
        study.forget();
        return was;
    }

    public int hand(int call, int then) {
        if (!now.hasCall(call) || then != -1 && !now.hasCall(then)) {
            return findings.tell(BEYOND);
        }
        if (now.hands >= MOST_HANDS) {
            return findings.tell(FULL);
        }
        now.firstCalls[now.hands] = call;
        now.thenCalls[now.hands] = then;
        now.hands++;
        study.forget();
        return now.hands - 1;
    }

    public int clear() {
        int had = now.hands;
        now.hands = 0;
        study.forget();
        return had;
    }

    // ---- all turns

    public int states() {
        return study.isTooLarge() ? findings.tell(SIZE) : study.turns.count;
    }

    public int ends() {
        return study.isTooLarge() ? findings.tell(SIZE) : study.endResults.size;
    }

    public int result(int i) {
        if (i < 0) {
            return findings.tell(BEYOND);
        }
        if (study.isTooLarge()) {
            return findings.tell(SIZE);
        }
        return i < study.endResults.size ? study.endResults.items[i] : findings.tell(NONE);
    }

    public int orders() {
        return study.orderedResults().size;
    }

    public int inOrder(int i) {
        if (i < 0) {
            return findings.tell(BEYOND);
        }
        Row results = study.orderedResults();
        return i < results.size ? results.items[i] : findings.tell(NONE);
    }

    public int bad() {
        return study.isTooLarge() ? findings.tell(SIZE) : study.countBad(study.orderedResults());
    }

    public int worst() {
        if (study.isTooLarge()) {
            return findings.tell(SIZE);
        }
        int least = study.leastBad(study.orderedResults());
        return least >= 0 ? least : findings.tell(NONE);
    }

    public int turn(int i) {
        if (i < -1) {
            return findings.tell(BEYOND);
        }
        if (study.isTooLarge()) {
            return findings.tell(SIZE);
        }
        int length = study.walkToWorst();
        if (length < 0 || i >= length) {
            return findings.tell(NONE);
        }
        return i == -1 ? length : study.turns.moveOnPath(i);
    }

    public int stuck() {
        return study.isTooLarge() ? findings.tell(SIZE) : study.turns.countStuck();
    }

    public int round() {
        if (study.isTooLarge()) {
            return findings.tell(SIZE);
        }
        return study.turns.hasRound() ? 1 : 0;
    }

    public int heal(int call, int step) {
        if (!now.hasStep(call, step)) {
            return findings.tell(BEYOND);
        }
        int part = now.changeablePart(call, step);
        if (part < 0) {
            return findings.tell(KIND);
        }
        int healing = study.healingValues(call, step, part);
        return healing >= 0 ? healing : findings.tell(SIZE);
    }

    public int fences() {
        int fewest = study.fewestFences();
        if (fewest == Study.TOO_LARGE) {
            return findings.tell(SIZE);
        }
        return fewest >= 0 ? fewest : findings.tell(NONE);
    }

    // ---- told turns

    public int cost(int s) {
        int finding = findingOfTurn(s);
        return finding < 0 ? play.price : findings.tell(finding);
    }

    public int played(int s) {
        int finding = findingOfTurn(s);
        return finding < 0 || finding == STATE ? play.done : findings.tell(finding);
    }

    public int judge(int s) {
        int finding = findingOfTurn(s);
        if (finding >= 0) {
            return findings.tell(finding);
        }
        if (!study.machine.isEnd(play.state)) {
            return 2;
        }
        return study.orderedResults().holds(study.machine.resultOf(play.state)) ? 0 : 1;
    }

    public int moves(int s) {
        int finding = findingOfTurn(s);
        return finding < 0 ? study.machine.possible(play.state) : findings.tell(finding);
    }

    public int after(int s, int what) {
        int hand = what / 10 - 1;
        boolean ofCell = what >= 0 && what < CELLS;
        boolean ofHand = what >= 10 && hand < now.hands && what % 10 <= 4;
        if (!ofCell && !ofHand) {
            return findings.tell(BEYOND);
        }
        int finding = findingOfTurn(s);
        if (finding >= 0) {
            return findings.tell(finding);
        }
        if (ofCell) {
            return Machine.valueIn(play.state, what);
        }
        return study.machine.aboutHand(play.state, hand, what % 10);
    }

    // ---- sheets

    public int sheet(int s, int bits, int n) {
        if (!isSheet(s) || bits != 0 && bits != 8 && bits != 16 && bits != 64) {
            return findings.tell(BEYOND);
        }
        if (n < 0) {
            return findings.tell(SIZE);
        }
        if (n > MOST_NUMBERS) {
            return findings.tell(BEYOND);
        }
        sheets[s].begin(bits, bits == 0 ? 0 : n);
        return sheets[s].size;
    }

    public long write(int s, int i, long v) {
        if (!isSheet(s)) {
            return findings.tell(BEYOND);
        }
        if (sheets[s].bits == 0) {
            return findings.tell(MISSING);
        }
        if (i < 0 || i >= sheets[s].size) {
            return findings.tell(BEYOND);
        }
        long was = sheets[s].numbers[i];
        sheets[s].put(i, v);
        return was;
    }

    public int copy(int s, int from, int t, int to, int n) {
        if (!isSheet(s) || !isSheet(t)) {
            return findings.tell(BEYOND);
        }
        Sheet source = sheets[s];
        Sheet goal = sheets[t];
        if (source.bits == 0 || goal.bits == 0) {
            return findings.tell(MISSING);
        }
        if (source.bits != goal.bits) {
            return findings.tell(KIND);
        }
        if (!source.hasRange(from, n) || !goal.hasRange(to, n)) {
            return findings.tell(BEYOND);
        }
        System.arraycopy(source.numbers, from, goal.numbers, to, n);
        return n;
    }

    public int lead(int s) {
        if (!isSheet(s)) {
            return findings.tell(BEYOND);
        }
        if (study.isTooLarge()) {
            return findings.tell(SIZE);
        }
        int length = study.walkToWorst();
        if (length < 0) {
            return findings.tell(NONE);
        }
        if (length > MOST_NUMBERS) {
            return findings.tell(FULL);
        }
        sheets[s].begin(8, length);
        for (int i = 0; i < length; i++) {
            sheets[s].put(i, study.turns.moveOnPath(i));
        }
        return length;
    }

    // ---- images

    public int image() {
        kept.takeFrom(now);
        isKept = true;
        return 1;
    }

    public int undo() {
        if (!isKept) {
            return findings.tell(NONE);
        }
        now.takeFrom(kept);
        study.forget();
        return now.calls;
    }

    public int tear() {
        int was = isKept ? 1 : 0;
        isKept = false;
        return was;
    }

    public int look(int what) {
        switch (what) {
            case 0: return now.calls;
            case 1: return now.hands;
            case 2: return now.machineNumber;
            case 3:
            case 4:
            case 5: return now.firstValues[what - 3];
            case 6: return tape.size;
            default: return findings.tell(BEYOND);
        }
    }

    public int status(int which) {
        if (which < -1 || which > SIZE) {
            return findings.tell(BEYOND);
        }
        return which == -1 ? findings.total : findings.counts[which];
    }

    private static boolean isValue(int v) {
        return v >= 0 && v < VALUES;
    }

    private static boolean isSheet(int s) {
        return s >= 0 && s < SHEETS;
    }

    private static boolean isUnder(int own, int kind) {
        int at = own;
        for (int level = 0; level < UNDER.length && at >= 0; level++) {
            if (at == kind) {
                return true;
            }
            at = UNDER[at];
        }
        return false;
    }

    /** Plays a sheet's TURN: the finding that stands against it, or -1. */
    private int findingOfTurn(int s) {
        if (!isSheet(s)) {
            return BEYOND;
        }
        if (sheets[s].bits == 0) {
            return MISSING;
        }
        study.machine.load(now, 0L);
        play.through(sheets[s], study.machine);
        return play.done < sheets[s].size ? STATE : -1;
    }

    private static final class Findings {
        private static final int HIGHEST = -1000000001;
        final int[] counts = new int[SIZE + 1];
        int total;

        int tell(int finding) {
            counts[finding]++;
            total++;
            return HIGHEST - finding;
        }
    }

    private static final class Tape {
        final int[] bytes = new int[MOST_BYTES];
        int size;

        void append(int packed, int n) {
            for (int i = n - 1; i >= 0 && size < MOST_BYTES; i--) {
                bytes[size] = packed >> 8 * i & 255;
                size++;
            }
        }
    }

    /** Reads THE TAPE by TOKENS; start is always the FAULT if the latest one can't stand. */
    private static final class Reader {
        private static final int NOTHING = 0;
        private static final int WORD = 1;
        private static final int NUMBER = 2;
        private static final int SEMICOLON = 3;
        private static final int STRANGE = 4;

        private static final int WORDS = 9;
        private static final int[] KIND_OF_WORD = {READ, WRITE, WRITE, SWAP, ADD, FENCE, SET, 0, AGAIN};
        /** The parts that NUMBERS behind each WORD tell, as bits: they always come in rising order. */
        private static final int[] PARTS_OF_WORD = {2, 2, 6, 14, 6, 0, 4, 0, 16};
        /** Above every NUMBER that can stand anywhere, so that a long one can't wrap into one that can. */
        private static final int TOO_HIGH = 1000;

        final Tape tape = new Tape();
        private int at;
        private int start;
        private int token;
        private int number;

        /** Makes THE TAPE the next CALL, for which there must be room: the FAULT, or -1. */
        int faultOfNewCall(Setup setup) {
            at = 0;
            for (int place = 0; place <= MOST_STEPS; place++) {
                if (!readStep(setup, place)) {
                    return start;
                }
                nextToken();
                if (token == NOTHING) {
                    setup.lengths[setup.calls] = place + 1;
                    setup.calls++;
                    return -1;
                }
                if (token != SEMICOLON) {
                    return start;
                }
            }
            return start;
        }

        private boolean readStep(Setup setup, int place) {
            nextToken();
            if (token != WORD || place >= MOST_STEPS) {
                return false;
            }
            int word = latestWord();
            if (word < 0) {
                return false;
            }
            setup.putPart(setup.calls, place, 0, KIND_OF_WORD[word]);
            for (int part = 1; part < PARTS; part++) {
                int told = -1;
                if ((PARTS_OF_WORD[word] >> part & 1) == 1) {
                    nextToken();
                    if (token != NUMBER || number > highestOf(part, place)) {
                        return false;
                    }
                    told = number;
                }
                setup.putPart(setup.calls, place, part, told);
            }
            return true;
        }

        private static int highestOf(int part, int place) {
            switch (part) {
                case CELL_PART: return CELLS - 1;
                case GOAL_PART: return place;
                default: return VALUES - 1;
            }
        }

        private void nextToken() {
            for (; at < tape.size && tape.bytes[at] == ' '; at++) {
            }
            start = at;
            if (at >= tape.size) {
                token = NOTHING;
            } else if (isIn(tape.bytes[at], 'a', 'z')) {
                token = WORD;
                for (; at < tape.size && isIn(tape.bytes[at], 'a', 'z'); at++) {
                }
            } else if (isIn(tape.bytes[at], '0', '9')) {
                token = NUMBER;
                number = 0;
                for (; at < tape.size && isIn(tape.bytes[at], '0', '9'); at++) {
                    number = Math.min(TOO_HIGH, number * 10 + tape.bytes[at] - '0');
                }
            } else {
                token = tape.bytes[at] == ';' ? SEMICOLON : STRANGE;
                at++;
            }
        }

        private static boolean isIn(int sign, char low, char high) {
            return sign >= low && sign <= high;
        }

        private int latestWord() {
            for (int word = 0; word < WORDS; word++) {
                if (isLatest(spelling(word))) {
                    return word;
                }
            }
            return -1;
        }

        private boolean isLatest(String spelling) {
            if (spelling.length() != at - start) {
                return false;
            }
            for (int i = 0; i < spelling.length(); i++) {
                if (spelling.charAt(i) != tape.bytes[start + i]) {
                    return false;
                }
            }
            return true;
        }

        private static String spelling(int word) {
            switch (word) {
                case 0: return "read";
                case 1: return "write";
                case 2: return "put";
                case 3: return "swap";
                case 4: return "add";
                case 5: return "fence";
                case 6: return "set";
                case 7: return "keep";
                default: return "again";
            }
        }
    }

    /** All that an image keeps: CALLS, HANDS, FIRST VALUES and the number of THE MACHINE. */
    private static final class Setup {
        int calls;
        final int[] lengths = new int[MOST_CALLS];
        private final int[] code = new int[MOST_CALLS * MOST_STEPS * PARTS];
        int hands;
        final int[] firstCalls = new int[MOST_HANDS];
        final int[] thenCalls = new int[MOST_HANDS];
        final int[] firstValues = new int[CELLS];
        int machineNumber;

        boolean hasCall(int call) {
            return call >= 0 && call < calls;
        }

        boolean hasStep(int call, int step) {
            return hasCall(call) && step >= 0 && step < lengths[call];
        }

        int partOf(int call, int step, int part) {
            return code[(call * MOST_STEPS + step) * PARTS + part];
        }

        void putPart(int call, int step, int part, int v) {
            code[(call * MOST_STEPS + step) * PARTS + part] = v;
        }

        /** The part that change() changes, or -1. A write that isn't a put has no VALUE of its own. */
        int changeablePart(int call, int step) {
            switch (partOf(call, step, 0)) {
                case SWAP: return SECOND_PART;
                case ADD:
                case SET: return VALUE_PART;
                case WRITE: return partOf(call, step, VALUE_PART) < 0 ? -1 : VALUE_PART;
                default: return -1;
            }
        }

        boolean isDone(int call) {
            for (int h = 0; h < hands; h++) {
                if (firstCalls[h] == call || thenCalls[h] == call) {
                    return true;
                }
            }
            return false;
        }

        void takeFrom(Setup other) {
            calls = other.calls;
            hands = other.hands;
            machineNumber = other.machineNumber;
            System.arraycopy(other.lengths, 0, lengths, 0, MOST_CALLS);
            System.arraycopy(other.code, 0, code, 0, code.length);
            System.arraycopy(other.firstCalls, 0, firstCalls, 0, MOST_HANDS);
            System.arraycopy(other.thenCalls, 0, thenCalls, 0, MOST_HANDS);
            System.arraycopy(other.firstValues, 0, firstValues, 0, CELLS);
        }
    }

    /**
     * The STEPS of all HANDS laid out one behind the other, and the MOVES over STATES.
     *
     * <p>A STATE is one number of 63 bits, so that none has to be made as an object: 2 bits for each
     * CELL, then 19 for each HAND: 5 its place among its STEPS, 2 A, 2 B, 2 how many writes are
     * WAITING, 4 the oldest of them (CELL * 4 + VALUE), 4 the other one. What isn't there is 0.
     */
    private static final class Machine {
        /** Two CALLS of 7 STEPS, with a FENCE tried behind 6 of them. */
        private static final int PLACES = 2 * (MOST_STEPS + MOST_FENCES);
        private static final int CELL_BITS = 2 * CELLS;
        private static final int HAND_BITS = 19;
        private static final int HAND_MASK = (1 << HAND_BITS) - 1;
        private static final int PLACE_MASK = 31;
        private static final int A_SHIFT = 5;
        private static final int B_SHIFT = 7;
        private static final int COUNT_SHIFT = 9;
        private static final int OLDEST_SHIFT = 11;
        private static final int LATEST_SHIFT = 15;
        private static final int WRITES_MASK = ~0 << COUNT_SHIFT;
        private static final int MOST_WAITING = 2;
        /** A CALL alone has at most this many STATES; doing more STEPS, it was in one of them before. */
        private static final int MOST_ALONE = (MOST_STEPS + MOST_FENCES) * 16 * 64;

        int hands;
        boolean isLate;
        long first;
        private final int[] code = new int[MOST_HANDS * PLACES * PARTS];
        private final int[] placesOfSteps = new int[MOST_STEPS];
        /** Where each HAND's second CALL begins, if it has one, and where all its STEPS are done. */
        private final int[] seconds = new int[MOST_HANDS];
        private final int[] lengths = new int[MOST_HANDS];

        /** Takes over a setup, with a FENCE behind each STEP whose bit (CALL * 7 + STEP) is in fenced. */
        void load(Setup setup, long fenced) {
            hands = setup.hands;
            isLate = setup.machineNumber == 1;
            first = 0L;
            for (int cell = 0; cell < CELLS; cell++) {
                first |= (long) setup.firstValues[cell] << 2 * cell;
            }
            for (int h = 0; h < MOST_HANDS; h++) {
                seconds[h] = h < hands ? layCall(setup, setup.firstCalls[h], h, 0, fenced) : 0;
                lengths[h] = seconds[h];
                if (h < hands && setup.thenCalls[h] >= 0) {
                    lengths[h] = layCall(setup, setup.thenCalls[h], h, seconds[h], fenced);
                }
            }
        }

        private int layCall(Setup setup, int call, int h, int from, long fenced) {
            int place = from;
            for (int step = 0; step < setup.lengths[call] && place < PLACES; step++) {
                placesOfSteps[step] = place;
                int base = (h * PLACES + place) * PARTS;
                for (int part = 0; part < PARTS; part++) {
                    code[base + part] = setup.partOf(call, step, part);
                }
                // Behind FENCES the STEP that an AGAIN goes on with has another place.
                if (code[base] == AGAIN) {
                    code[base + GOAL_PART] = placesOfSteps[setup.partOf(call, step, GOAL_PART)];
                }
                place++;
                if ((fenced >>> call * MOST_STEPS + step & 1L) == 1L && place < PLACES) {
                    code[(h * PLACES + place) * PARTS] = FENCE;
                    place++;
                }
            }
            return place;
        }

        static int valueIn(long state, int cell) {
            return (int) (state >>> 2 * cell) & 3;
        }

        private static int handIn(long state, int h) {
            return (int) (state >>> CELL_BITS + HAND_BITS * h) & HAND_MASK;
        }

        private static long withValue(long state, int cell, int v) {
            return state & ~(3L << 2 * cell) | (long) (v & 3) << 2 * cell;
        }

        private static long withHand(long state, int h, int hand) {
            int shift = CELL_BITS + HAND_BITS * h;
            return state & ~((long) HAND_MASK << shift) | (long) hand << shift;
        }

        private static int withA(int hand, int v) {
            return hand & ~(3 << A_SHIFT) | v << A_SHIFT;
        }

        private static int withB(int hand, int v) {
            return hand & ~(3 << B_SHIFT) | v << B_SHIFT;
        }

        /** The latest WAITING write to a CELL as its VALUE, or -1. */
        private static int waitingFor(int hand, int cell) {
            int count = hand >> COUNT_SHIFT & 3;
            int latest = hand >> LATEST_SHIFT & 15;
            if (count == 2 && latest >> 2 == cell) {
                return latest & 3;
            }
            int oldest = hand >> OLDEST_SHIFT & 15;
            return count >= 1 && oldest >> 2 == cell ? oldest & 3 : -1;
        }

        /** The STATE behind a MOVE on a machine that shows writes late or at once, or CANNOT. */
        long moved(long state, int move, boolean showsLate) {
            if (move >= MOST_HANDS) {
                return arrived(state, move - MOST_HANDS);
            }
            int h = move;
            int hand = handIn(state, h);
            int place = hand & PLACE_MASK;
            if (place >= lengths[h]) {
                return CANNOT;
            }
            int base = (h * PLACES + place) * PARTS;
            int a = hand >> A_SHIFT & 3;
            // Places are far below 31, so that one more never runs over into A.
            int onward = hand + 1;
            switch (code[base]) {
                case READ: {
                    int cell = code[base + CELL_PART];
                    int own = waitingFor(hand, cell);
                    return withHand(state, h, withA(onward, own >= 0 ? own : valueIn(state, cell)));
                }
                case WRITE:
                    return written(state, h, base, showsLate);
                case SWAP:
                case ADD:
                    return swapped(state, h, base);
                case FENCE:
                    return (hand & WRITES_MASK) != 0 ? CANNOT : withHand(state, h, onward);
                case AGAIN:
                    return withHand(state, h, a == 0 ? hand - place + code[base + GOAL_PART] : onward);
                case SET:
                    return withHand(state, h, withA(onward, code[base + VALUE_PART]));
                default:
                    return withHand(state, h, withB(onward, a));
            }
        }

        private long written(long state, int h, int base, boolean showsLate) {
            int hand = handIn(state, h);
            int cell = code[base + CELL_PART];
            int told = code[base + VALUE_PART];
            int v = told < 0 ? hand >> B_SHIFT & 3 : told;
            if (!showsLate) {
                return withHand(withValue(state, cell, v), h, hand + 1);
            }
            int count = hand >> COUNT_SHIFT & 3;
            if (count >= MOST_WAITING) {
                return CANNOT;
            }
            int shift = count == 0 ? OLDEST_SHIFT : LATEST_SHIFT;
            return withHand(state, h, hand + 1 + (1 << COUNT_SHIFT) + ((cell << 2 | v) << shift));
        }

        private long swapped(long state, int h, int base) {
            int hand = handIn(state, h);
            if ((hand & WRITES_MASK) != 0) {
                return CANNOT;
            }
            int cell = code[base + CELL_PART];
            int was = valueIn(state, cell);
            int told = code[base + VALUE_PART];
            if (code[base] == ADD) {
                return withHand(withValue(state, cell, was + told), h, withA(hand + 1, was));
            }
            if (was != told) {
                return withHand(state, h, withA(hand + 1, 0));
            }
            return withHand(withValue(state, cell, code[base + SECOND_PART]), h, withA(hand + 1, 1));
        }

        private long arrived(long state, int h) {
            int hand = handIn(state, h);
            int count = hand >> COUNT_SHIFT & 3;
            if (count == 0) {
                return CANNOT;
            }
            int oldest = hand >> OLDEST_SHIFT & 15;
            int latest = hand >> LATEST_SHIFT & 15;
            int left = hand & ~WRITES_MASK | count - 1 << COUNT_SHIFT | latest << OLDEST_SHIFT;
            return withHand(withValue(state, oldest >> 2, oldest & 3), h, left);
        }

        /** The STATE when a HAND has done its next CALL alone, or CANNOT if that never ends. */
        long withCallDone(long state, int h) {
            int end = (handIn(state, h) & PLACE_MASK) < seconds[h] ? seconds[h] : lengths[h];
            long at = state;
            long mark = state;
            int nextMark = 2;
            for (int done = 1; done <= MOST_ALONE; done++) {
                at = moved(at, h, false);
                // Marks ever farther apart meet each round long before the bound does.
                if (at == CANNOT || at == mark) {
                    return CANNOT;
                }
                if ((handIn(at, h) & PLACE_MASK) >= end) {
                    return at;
                }
                if (done == nextMark) {
                    mark = at;
                    nextMark = 2 * nextMark;
                }
            }
            return CANNOT;
        }

        boolean hasCallLeft(long state, int h) {
            return (handIn(state, h) & PLACE_MASK) < lengths[h];
        }

        boolean isEnd(long state) {
            for (int h = 0; h < hands; h++) {
                if (hasCallLeft(state, h) || (handIn(state, h) & WRITES_MASK) != 0) {
                    return false;
                }
            }
            return true;
        }

        int resultOf(long state) {
            int digits = 0;
            for (int cell = 0; cell < CELLS; cell++) {
                digits = digits * 4 + valueIn(state, cell);
            }
            for (int h = 0; h < hands; h++) {
                int hand = handIn(state, h);
                digits = digits * 16 + (hand >> A_SHIFT & 3) * 4 + (hand >> B_SHIFT & 3);
            }
            return digits;
        }

        int possible(long state) {
            int set = 0;
            for (int move = 0; move < MOVE_KINDS; move++) {
                if (moved(state, move, isLate) != CANNOT) {
                    set |= 1 << move;
                }
            }
            return set;
        }

        /** The CELL that a MOVE which can be done reads or changes, or -1. */
        int touched(long state, int move) {
            if (move >= MOST_HANDS) {
                return handIn(state, move - MOST_HANDS) >> OLDEST_SHIFT + 2 & 3;
            }
            int hand = handIn(state, move);
            int base = (move * PLACES + (hand & PLACE_MASK)) * PARTS;
            switch (code[base]) {
                case READ: return waitingFor(hand, code[base + CELL_PART]) >= 0 ? -1 : code[base + CELL_PART];
                case WRITE: return isLate ? -1 : code[base + CELL_PART];
                case SWAP:
                case ADD: return code[base + CELL_PART];
                default: return -1;
            }
        }

        /** Of a HAND, as after() counts: 0 A, 1 B, 2 WAITING writes, 3 the next STEP, 4 CALLS done. */
        int aboutHand(long state, int h, int what) {
            int hand = handIn(state, h);
            int place = hand & PLACE_MASK;
            boolean isDone = place >= lengths[h];
            boolean inSecond = place >= seconds[h];
            switch (what) {
                case 0: return hand >> A_SHIFT & 3;
                case 1: return hand >> B_SHIFT & 3;
                case 2: return hand >> COUNT_SHIFT & 3;
                case 3: return isDone ? 0 : inSecond ? place - seconds[h] : place;
                default: return !isDone ? (inSecond ? 1 : 0) : lengths[h] > seconds[h] ? 2 : 1;
            }
        }
    }

    /** Unlike numbers, the least first. */
    private static final class Row {
        final int[] items;
        int size;

        Row(int most) {
            items = new int[Math.max(0, most)];
        }

        private int placeFor(int v) {
            int low = 0;
            int high = size;
            for (int halving = 0; halving < 32 && low < high; halving++) {
                int middle = (low + high) / 2;
                if (items[middle] < v) {
                    low = middle + 1;
                } else {
                    high = middle;
                }
            }
            return low;
        }

        boolean holds(int v) {
            int place = placeFor(v);
            return place < size && items[place] == v;
        }

        void include(int v) {
            int place = placeFor(v);
            if (place < size && items[place] == v || size >= items.length) {
                return;
            }
            System.arraycopy(items, place, items, place + 1, size - place);
            items[place] = v;
            size++;
        }
    }

    /** ALL STATES, numbered as they are found: shortest TURNS first, of like ones the least first. */
    private static final class Turns {
        /** A power of two, well above the STATES, so that few of them want one slot. */
        private static final int SLOTS = 16384;
        private static final int HASH_SHIFT = 50;
        private static final long HASH_FACTOR = 0x9E3779B97F4A7C15L;

        private final long[] found = new long[MOST_STATES];
        private final int[] slots = new int[SLOTS];
        private final int[] slotsOfFound = new int[MOST_STATES];
        /** How a STATE was found: the one before it * 6 + the MOVE; -1 of the first one. */
        private final int[] cameBy = new int[MOST_STATES];
        private final int[] nexts = new int[MOST_STATES * MOVE_KINDS];
        private final int[] marks = new int[MOST_STATES];
        private final int[] line = new int[MOST_STATES];
        int count;
        boolean isTooLarge;

        void explore(Machine machine) {
            count = 0;
            isTooLarge = false;
            indexOf(machine.first, -1);
            for (int i = 0; i < MOST_STATES && i < count && !isTooLarge; i++) {
                for (int move = 0; move < MOVE_KINDS && !isTooLarge; move++) {
                    long next = machine.moved(found[i], move, machine.isLate);
                    int edge = i * MOVE_KINDS + move;
                    nexts[edge] = next == CANNOT ? -1 : indexOf(next, edge);
                }
            }
        }

        /** The number of a STATE, a new one if it wasn't found yet; -1 if there are too many. */
        private int indexOf(long state, int edge) {
            int slot = (int) (state * HASH_FACTOR >>> HASH_SHIFT);
            for (int tries = 0; tries < SLOTS; tries++) {
                int i = slots[slot];
                // A slot counts only if its STATE points back: so none has to be emptied for a new search.
                if (i >= count || slotsOfFound[i] != slot) {
                    return include(state, slot, edge);
                }
                if (found[i] == state) {
                    return i;
                }
                slot = slot + 1 & SLOTS - 1;
            }
            return -1;
        }

        private int include(long state, int slot, int edge) {
            if (count >= MOST_STATES) {
                isTooLarge = true;
                return -1;
            }
            found[count] = state;
            slots[slot] = count;
            slotsOfFound[count] = slot;
            cameBy[count] = edge;
            count++;
            return count - 1;
        }

        void gatherEnds(Machine machine, Row results) {
            results.size = 0;
            for (int i = 0; i < count; i++) {
                if (machine.isEnd(found[i])) {
                    results.include(machine.resultOf(found[i]));
                }
            }
        }

        /** Lays out the TURN by which the END with a RESULT was found: how many MOVES. */
        int walkTo(Machine machine, int result) {
            int at = 0;
            for (int i = 0; i < count; i++) {
                if (machine.isEnd(found[i]) && machine.resultOf(found[i]) == result) {
                    at = i;
                    break;
                }
            }
            int length = 0;
            for (int i = at; length < count && cameBy[i] >= 0; i = cameBy[i] / MOVE_KINDS) {
                length++;
            }
            int back = at;
            for (int i = length - 1; i >= 0; i--) {
                line[i] = cameBy[back] % MOVE_KINDS;
                back = cameBy[back] / MOVE_KINDS;
            }
            return length;
        }

        int moveOnPath(int i) {
            return line[i] < MOST_HANDS ? line[i] : line[i] - MOST_HANDS + 10;
        }

        int countStuck() {
            Arrays.fill(marks, 0, count, 0);
            int free = 0;
            boolean grew = true;
            // From the last one to the first, as most MOVES lead to later ones: few rounds are needed.
            for (int sweep = 0; sweep <= count && grew; sweep++) {
                grew = false;
                for (int i = count - 1; i >= 0; i--) {
                    if (marks[i] == 0 && leadsOut(i)) {
                        marks[i] = 1;
                        free++;
                        grew = true;
                    }
                }
            }
            return count - free;
        }

        /** Whether a STATE is an END (nothing can be done there), or one MOVE leads to a marked one. */
        private boolean leadsOut(int i) {
            boolean isEnd = true;
            for (int edge = i * MOVE_KINDS; edge < (i + 1) * MOVE_KINDS; edge++) {
                if (nexts[edge] >= 0) {
                    isEnd = false;
                    if (marks[nexts[edge]] == 1) {
                        return true;
                    }
                }
            }
            return isEnd;
        }

        /** Takes away STATES to which nothing leads, again and again: what stays goes round. */
        boolean hasRound() {
            Arrays.fill(marks, 0, count, 0);
            for (int edge = 0; edge < count * MOVE_KINDS; edge++) {
                if (nexts[edge] >= 0) {
                    marks[nexts[edge]]++;
                }
            }
            int size = 0;
            if (count > 0 && marks[0] == 0) {
                line[0] = 0;
                size = 1;
            }
            for (int taken = 0; taken < count && taken < size; taken++) {
                size = takeAway(line[taken], size);
            }
            return size < count;
        }

        private int takeAway(int i, int size) {
            int grown = size;
            for (int edge = i * MOVE_KINDS; edge < (i + 1) * MOVE_KINDS; edge++) {
                int next = nexts[edge];
                if (next >= 0) {
                    marks[next]--;
                    if (marks[next] == 0 && grown < MOST_STATES) {
                        line[grown] = next;
                        grown++;
                    }
                }
            }
            return grown;
        }
    }

    /** What all TURNS and all orders of a setup give, known until it is forgotten. */
    private static final class Study {
        static final int NOT_ANY = -1;
        static final int TOO_LARGE = -2;

        final Setup setup = new Setup();
        final Machine machine = new Machine();
        final Turns turns = new Turns();
        final Row endResults = new Row(MOST_STATES);
        private final Row orderResults = new Row(MOST_ORDERS);
        private final int[] fencePlaces = new int[MOST_FENCES];
        private boolean knowsTurns;
        private boolean knowsOrders;

        void forget() {
            knowsTurns = false;
            knowsOrders = false;
        }

        Row orderedResults() {
            if (!knowsOrders) {
                machine.load(setup, 0L);
                orderResults.size = 0;
                followOrders(machine, orderResults, machine.first, 0);
                knowsOrders = true;
            }
            return orderResults;
        }

        /** Goes on from a STATE between whole CALLS; no order has more CALLS than depth can count. */
        private static void followOrders(Machine machine, Row results, long state, int depth) {
            boolean isWhole = true;
            for (int h = 0; h < machine.hands; h++) {
                if (machine.hasCallLeft(state, h)) {
                    isWhole = false;
                    long next = machine.withCallDone(state, h);
                    if (next != CANNOT && depth < 2 * MOST_HANDS) {
                        followOrders(machine, results, next, depth + 1);
                    }
                }
            }
            if (isWhole) {
                results.include(machine.resultOf(state));
            }
        }

        boolean isTooLarge() {
            if (!knowsTurns) {
                goThrough(0L);
                knowsTurns = true;
            }
            return turns.isTooLarge;
        }

        private void goThrough(long fenced) {
            machine.load(setup, fenced);
            turns.explore(machine);
            turns.gatherEnds(machine, endResults);
        }

        int countBad(Row good) {
            int count = 0;
            for (int i = 0; i < endResults.size; i++) {
                if (!good.holds(endResults.items[i])) {
                    count++;
                }
            }
            return count;
        }

        int leastBad(Row good) {
            for (int i = 0; i < endResults.size; i++) {
                if (!good.holds(endResults.items[i])) {
                    return endResults.items[i];
                }
            }
            return NOT_ANY;
        }

        /** Lays out the TURN of turn(): how many MOVES, or NOT_ANY. */
        int walkToWorst() {
            int least = leastBad(orderedResults());
            if (least < 0) {
                return NOT_ANY;
            }
            machine.load(setup, 0L);
            return turns.walkTo(machine, least);
        }

        /** A set of VALUES, or TOO_LARGE. */
        int healingValues(int call, int step, int part) {
            int own = setup.partOf(call, step, part);
            int set = 0;
            for (int v = 0; v < VALUES && set >= 0; v++) {
                setup.putPart(call, step, part, v);
                forget();
                if (isTooLarge()) {
                    set = TOO_LARGE;
                } else if (leastBad(orderedResults()) < 0) {
                    set |= 1 << v;
                }
            }
            setup.putPart(call, step, part, own);
            forget();
            return set;
        }

        /** A set of WRITES, NOT_ANY or TOO_LARGE. FENCES leave what orders give as it is. */
        int fewestFences() {
            Row good = orderedResults();
            if (isTooLarge()) {
                return TOO_LARGE;
            }
            if (leastBad(good) < 0) {
                return 0;
            }
            int places = findFencePlaces();
            int answer = NOT_ANY;
            for (int size = 1; size <= places && answer == NOT_ANY; size++) {
                for (int set = 0; set < 1 << places && answer == NOT_ANY; set++) {
                    if (Integer.bitCount(set) == size) {
                        answer = tryFences(set, places, good);
                    }
                }
            }
            knowsTurns = false;
            return answer;
        }

        private int tryFences(int set, int places, Row good) {
            long fenced = 0L;
            for (int i = 0; i < places; i++) {
                if ((set >> i & 1) == 1) {
                    fenced |= 1L << fencePlaces[i];
                }
            }
            goThrough(fenced);
            if (turns.isTooLarge) {
                return TOO_LARGE;
            }
            return leastBad(good) < 0 ? set : NOT_ANY;
        }

        private int findFencePlaces() {
            int size = 0;
            for (int call = 0; call < setup.calls; call++) {
                for (int step = 0; step < setup.lengths[call] && setup.isDone(call); step++) {
                    if (setup.partOf(call, step, 0) == WRITE && size < MOST_FENCES) {
                        fencePlaces[size] = call * MOST_STEPS + step;
                        size++;
                    }
                }
            }
            return size;
        }
    }

    private static final class Sheet {
        int bits;
        int size;
        final long[] numbers = new long[MOST_NUMBERS];

        void begin(int newBits, int n) {
            bits = newBits;
            size = n;
            Arrays.fill(numbers, 0L);
        }

        void put(int i, long v) {
            numbers[i] = bits == 8 ? (long) (byte) v : bits == 16 ? (long) (short) v : v;
        }

        /** Asked without a sum, which could run over. */
        boolean hasRange(int from, int n) {
            return from >= 0 && n >= 0 && n <= size && from <= size - n;
        }
    }

    /** A told TURN, done as far as it can be. */
    private static final class Play {
        private final int[] latestHands = new int[CELLS];
        long state;
        int done;
        int price;

        void through(Sheet sheet, Machine machine) {
            Arrays.fill(latestHands, -1);
            state = machine.first;
            done = 0;
            price = 0;
            for (int i = 0; i < sheet.size; i++) {
                int move = moveFor(sheet.numbers[i]);
                long next = move < 0 ? CANNOT : machine.moved(state, move, machine.isLate);
                if (next == CANNOT) {
                    break;
                }
                price += priceOf(move, machine.touched(state, move));
                state = next;
                done++;
            }
        }

        /** A MOVE by its number, which may be any of 64 bits. */
        private static int moveFor(long number) {
            if (number >= 0L && number < MOST_HANDS) {
                return (int) number;
            }
            return number >= 10L && number < 10L + MOST_HANDS ? (int) number - 10 + MOST_HANDS : -1;
        }

        private int priceOf(int move, int cell) {
            if (cell < 0 || cell >= CELLS) {
                return 1;
            }
            int hand = move % MOST_HANDS;
            boolean isAnothers = latestHands[cell] >= 0 && latestHands[cell] != hand;
            latestHands[cell] = hand;
            return isAnothers ? 5 : 1;
        }
    }
}
