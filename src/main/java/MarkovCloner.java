/** A small archive of bit messages, coded with dynamic Markov modelling. */
public final class MarkovCloner {
    public static final int OK = 0;
    public static final int BAD = -1;
    public static final int FULL = -2;
    public static final int BUSY = -3;
    public static final int NONE = -4;
    public static final int SHORT = -5;

    public static final int EQUAL = 0;
    public static final int LESS = 1;
    public static final int GREATER = 2;

    public static final int WRITER = 0;
    public static final int READER = 1;

    public static final int SLOTS = 3;
    public static final int MAX_BITS = 80;
    public static final int MAX_PIECE = 16;
    public static final int START = 2;
    public static final int USE = 4;
    public static final int CAP = 128;

    // A third side, never visible: recode and compare must decode whole
    // messages without moving the reader.
    private static final int SCRATCH = 2;
    private static final int SIDES = 3;

    private static final int LEAST_WIDTH = 1;
    private static final int GREATEST_WIDTH = 4;
    private static final int LEAST_STATES = 8;
    private static final int GREATEST_STATES = 32;
    private static final int LEAST_THRESHOLD = 2;
    private static final int GREATEST_THRESHOLD = 64;
    private static final int CELLS = SIDES * GREATEST_STATES * 2;

    // The coder's interval is low .. high, both of four bytes.
    private static final int INTERVAL_BYTES = 4;
    private static final long INTERVAL_TOP = 0xFFFFFFFFL;

    // A bit narrows the interval at most 256-fold, because a state's two counts
    // have a sum of at most CAP, and a byte of code widens it 256-fold: so there
    // is at most one byte for every bit, and one more at the end.
    private static final int CODE_ROOM = MAX_BITS + 1;
    private static final int ALL_CODE_ROOM = SLOTS * CODE_ROOM;

    private final int width;
    private final int maxStates;
    private final int t1;
    private final int t2;

    // The automata, one for each side.
    private final int[] stateTotal = new int[SIDES];
    private final int[] currentState = new int[SIDES];
    private final int[] flushTotal = new int[SIDES];
    private final int[] successor = new int[CELLS];
    private final int[] tally = new int[CELLS];

    // The coders, one for each side: the interval, how many bytes of code have
    // been written or read, and (not for the writer) the last four bytes read.
    private final long[] low = new long[SIDES];
    private final long[] high = new long[SIDES];
    private final int[] codeAt = new int[SIDES];
    private final long[] window = new long[SIDES];

    // The code of the message being written, and how many bits it stands for.
    private final byte[] draft = new byte[CODE_ROOM];
    private int written;

    // The sealed messages; a free slot has a length of 0 bits.
    private final byte[] code = new byte[ALL_CODE_ROOM];
    private final int[] codeLength = new int[SLOTS];
    private final int[] bitLength = new int[SLOTS];

    private int openSlot;
    private int decoded;

    // Whole decoded messages, one bit in each place.
    private final byte[] bitsOne = new byte[MAX_BITS];
    private final byte[] bitsTwo = new byte[MAX_BITS];

    public MarkovCloner(int width, int maxStates, int t1, int t2) {
        this.width = clamp(width, LEAST_WIDTH, GREATEST_WIDTH);
        this.maxStates = clamp(maxStates, LEAST_STATES, GREATEST_STATES);
        this.t1 = clamp(t1, LEAST_THRESHOLD, GREATEST_THRESHOLD);
        this.t2 = clamp(t2, LEAST_THRESHOLD, GREATEST_THRESHOLD);
        renewWriter();
        closeReader();
    }

    public int put(int value, int n) {
        if (!isPiece(n)) {
            return BAD;
        }
        if (written + n > MAX_BITS) {
            return FULL;
        }
        for (int i = n - 1; i >= 0; i--) {
            writeBit((value >>> i) & 1);
        }
        return OK;
    }

    public int seal(int slot) {
        if (!isSlot(slot)) {
            return BAD;
        }
        if (bitLength[slot] > 0) {
            return BUSY;
        }
        if (written == 0) {
            return NONE;
        }
        finishCode();
        storeDraft(slot);
        renewWriter();
        return OK;
    }

    public void discard() {
        renewWriter();
    }

    public int open(int slot) {
        if (!isSlot(slot)) {
            return BAD;
        }
        if (bitLength[slot] == 0) {
            return NONE;
        }
        openSlot = slot;
        decoded = 0;
        startDecoding(READER, slot);
        return OK;
    }

    public int take(int n) {
        if (!isPiece(n)) {
            return BAD;
        }
        if (openSlot == NONE) {
            return NONE;
        }
        if (decoded + n > bitLength[openSlot]) {
            return SHORT;
        }
        int answer = 0;
        for (int i = 0; i < n; i++) {
            int bit = decodeBit(READER, openSlot);
            answer = answer * 2 + bit;
        }
        decoded += n;
        return answer;
    }

    public int recode(int slot) {
        if (!isSlot(slot)) {
            return BAD;
        }
        if (bitLength[slot] == 0) {
            return NONE;
        }
        if (written + bitLength[slot] > MAX_BITS) {
            return FULL;
        }
        decodeAll(slot, bitsOne);
        for (int i = 0; i < bitLength[slot]; i++) {
            writeBit(bitsOne[i]);
        }
        return OK;
    }

    public int drop(int slot) {
        if (!isSlot(slot)) {
            return BAD;
        }
        if (bitLength[slot] == 0) {
            return NONE;
        }
        bitLength[slot] = 0;
        codeLength[slot] = 0;
        if (openSlot == slot) {
            closeReader();
        }
        return OK;
    }

    public int compare(int a, int b) {
        if (!isSlot(a) || !isSlot(b)) {
            return BAD;
        }
        if (bitLength[a] == 0 || bitLength[b] == 0) {
            return NONE;
        }
        decodeAll(a, bitsOne);
        decodeAll(b, bitsTwo);
        for (int i = 0; i < bitLength[a] && i < bitLength[b]; i++) {
            if (bitsOne[i] != bitsTwo[i]) {
                return bitsOne[i] == 0 ? LESS : GREATER;
            }
        }
        if (bitLength[a] == bitLength[b]) {
            return EQUAL;
        }
        return bitLength[a] < bitLength[b] ? LESS : GREATER;
    }

    public int lengthOf(int slot) {
        return isSlot(slot) ? bitLength[slot] : BAD;
    }

    public int readerSlot() {
        return openSlot;
    }

    public int position(int side) {
        if (!isSide(side)) {
            return BAD;
        }
        return side == WRITER ? written : decoded;
    }

    public int states(int side) {
        return isSide(side) ? stateTotal[side] : BAD;
    }

    public int current(int side) {
        return isSide(side) ? currentState[side] : BAD;
    }

    public int flushes(int side) {
        return isSide(side) ? flushTotal[side] : BAD;
    }

    public int next(int side, int state, int bit) {
        return isCell(side, state, bit) ? successor[cell(side, state) + bit] : BAD;
    }

    public int count(int side, int state, int bit) {
        return isCell(side, state, bit) ? tally[cell(side, state) + bit] : BAD;
    }

    // The ranges of arguments.

    private static int clamp(int value, int least, int greatest) {
        if (value < least) {
            return least;
        }
        return value > greatest ? greatest : value;
    }

    private static boolean isPiece(int n) {
        return n >= 1 && n <= MAX_PIECE;
    }

    private static boolean isSlot(int slot) {
        return slot >= 0 && slot < SLOTS;
    }

    private static boolean isSide(int side) {
        return side == WRITER || side == READER;
    }

    private boolean isCell(int side, int state, int bit) {
        if (!isSide(side)) {
            return false;
        }
        return state >= 0 && state < stateTotal[side] && (bit == 0 || bit == 1);
    }

    // The writer and the reader.

    private void renewWriter() {
        written = 0;
        freshAutomaton(WRITER);
        freshCoder(WRITER);
    }

    private void closeReader() {
        openSlot = NONE;
        decoded = 0;
        freshAutomaton(READER);
        freshCoder(READER);
    }

    private void writeBit(int bit) {
        encodeBit(bit);
        learn(WRITER, bit);
        written++;
    }

    private void storeDraft(int slot) {
        for (int i = 0; i < codeAt[WRITER]; i++) {
            code[slot * CODE_ROOM + i] = draft[i];
        }
        codeLength[slot] = codeAt[WRITER];
        bitLength[slot] = written;
    }

    private void decodeAll(int slot, byte[] bits) {
        startDecoding(SCRATCH, slot);
        for (int i = 0; i < bitLength[slot]; i++) {
            bits[i] = (byte) decodeBit(SCRATCH, slot);
        }
    }

    // The arithmetic code.

    private void freshCoder(int side) {
        low[side] = 0;
        high[side] = INTERVAL_TOP;
        codeAt[side] = 0;
        window[side] = 0;
    }

    private void startDecoding(int side, int slot) {
        freshAutomaton(side);
        freshCoder(side);
        for (int i = 0; i < INTERVAL_BYTES; i++) {
            readByte(side, slot);
        }
    }

    private void encodeBit(int bit) {
        long split = splitPoint(WRITER);
        narrow(WRITER, split, bit);
        for (int i = 0; i < INTERVAL_BYTES && isFirstByteSettled(WRITER); i++) {
            appendByte(low[WRITER] >>> 24);
            widen(WRITER);
        }
    }

    private int decodeBit(int side, int slot) {
        long split = splitPoint(side);
        int bit = window[side] <= split ? 0 : 1;
        narrow(side, split, bit);
        for (int i = 0; i < INTERVAL_BYTES && isFirstByteSettled(side); i++) {
            widen(side);
            readByte(side, slot);
        }
        learn(side, bit);
        return bit;
    }

    // The last number of the interval that stands for bit 0. It lies below high,
    // as both counts are at least 1 and low < high: so each bit keeps a part.
    private long splitPoint(int side) {
        int here = cell(side, currentState[side]);
        int zeros = tally[here];
        int whole = zeros + tally[here + 1];
        return low[side] + portion(high[side] - low[side], zeros, whole);
    }

    // Counts never fall below 1, so the look at the divisor is a safeguard only.
    private static long portion(long amount, int part, int whole) {
        return whole < 1 ? 0 : amount * part / whole;
    }

    private void narrow(int side, long split, int bit) {
        if (bit == 0) {
            high[side] = split;
        } else {
            low[side] = split + 1;
        }
    }

    private boolean isFirstByteSettled(int side) {
        return (low[side] >>> 24) == (high[side] >>> 24);
    }

    private void widen(int side) {
        low[side] = (low[side] << 8) & INTERVAL_TOP;
        high[side] = ((high[side] << 8) & INTERVAL_TOP) | 0xFF;
    }

    private void appendByte(long value) {
        if (codeAt[WRITER] < CODE_ROOM) {
            draft[codeAt[WRITER]] = (byte) value;
            codeAt[WRITER]++;
        }
    }

    // Behind its end a code reads as zeros, so that its end can be left out.
    private void readByte(int side, int slot) {
        int value = 0;
        if (codeAt[side] < codeLength[slot]) {
            value = code[slot * CODE_ROOM + codeAt[side]] & 0xFF;
            codeAt[side]++;
        }
        window[side] = ((window[side] << 8) & INTERVAL_TOP) | value;
    }

    // The first bytes of low and high differ here, so the byte behind low's,
    // followed by zeros, lies in the interval. If low is 0, zeros alone do.
    private void finishCode() {
        if (low[WRITER] > 0) {
            appendByte((low[WRITER] >>> 24) + 1);
        }
    }

    // The automaton.

    private static int cell(int side, int state) {
        return (side * GREATEST_STATES + state) * 2;
    }

    private void freshAutomaton(int side) {
        takeInitialShape(side);
        flushTotal[side] = 0;
    }

    private void takeInitialShape(int side) {
        stateTotal[side] = width;
        currentState[side] = 0;
        for (int state = 0; state < width; state++) {
            int here = cell(side, state);
            int following = state + 1 == width ? 0 : state + 1;
            successor[here] = following;
            successor[here + 1] = following;
            tally[here] = START;
            tally[here + 1] = START;
        }
    }

    private void learn(int side, int bit) {
        int here = cell(side, currentState[side]);
        int edge = here + bit;
        int target = cell(side, successor[edge]);
        int whole = tally[target] + tally[target + 1];
        if (tally[edge] >= t1 && whole - tally[edge] >= t2) {
            if (stateTotal[side] >= maxStates) {
                takeInitialShape(side);
                flushTotal[side]++;
                return;
            }
            cloneTarget(side, edge, target, whole);
        }
        tally[edge] += USE;
        halveOverCap(here);
        currentState[side] = successor[edge];
    }

    private void cloneTarget(int side, int edge, int target, int whole) {
        int added = stateTotal[side];
        int clone = cell(side, added);
        // The edge may be one of the target's own, whose count changes below.
        int part = tally[edge];
        for (int x = 0; x < 2; x++) {
            int share = (int) portion(tally[target + x], part, whole);
            successor[clone + x] = successor[target + x];
            tally[clone + x] = atLeastOne(share);
            tally[target + x] = atLeastOne(tally[target + x] - share);
        }
        successor[edge] = added;
        stateTotal[side] = added + 1;
    }

    private static int atLeastOne(int value) {
        return value < 1 ? 1 : value;
    }

    private void halveOverCap(int here) {
        if (tally[here] + tally[here + 1] > CAP) {
            tally[here] = (tally[here] + 1) / 2;
            tally[here + 1] = (tally[here + 1] + 1) / 2;
        }
    }
}
