/** The promises of the document, one method for each: ordinary inputs, edges and wrong inputs. */
public final class PromiseTest {
    private static final int W = MarkovCloner.WRITER;
    private static final int R = MarkovCloner.READER;
    private static final int OK = MarkovCloner.OK;
    private static final int BAD = MarkovCloner.BAD;
    private static final int FULL = MarkovCloner.FULL;
    private static final int BUSY = MarkovCloner.BUSY;
    private static final int NONE = MarkovCloner.NONE;
    private static final int SHORT = MarkovCloner.SHORT;
    private static final int MIN = Integer.MIN_VALUE;
    private static final int MAX = Integer.MAX_VALUE;
    private static final int[] WRONG_SLOTS = {MIN, -4, -1, 3, 4, MAX};
    private static final int[] WRONG_PIECES = {MIN, -1, 0, 17, 32, 81, MAX};
    private static final int[] WRONG_SIDES = {MIN, -1, 2, 3, MAX};
    private static final String FRESH = "wrote 0: 2 at 0 flushes 0 | 1 1 2 2 | 0 0 2 2";
    private static final String CLOSED = "slot -4 read 0: 2 at 0 flushes 0 | 1 1 2 2 | 0 0 2 2";
    private static final String ALTERNATING = "0101010101010101010101010101010101010101";

    private static void due(String what, int got, int want) {
        Check.due(what, got, want);
    }

    private static MarkovCloner archive() {
        return new MarkovCloner(2, 8, 4, 4);
    }

    /** Messages in slots 0 and 2, the reader in the midst of slot 0, a message being written. */
    private static MarkovCloner busyArchive() {
        MarkovCloner x = archive();
        Check.store(x, 0, "1100101011110000101");
        Check.store(x, 2, "11001");
        due("open(0)", x.open(0), OK);
        due("take(7)", x.take(7), 0b1100101);
        due("put", x.put(0b1011010, 7), OK);
        return x;
    }

    private interface Call {
        int on(MarkovCloner x);
    }

    /** The call must answer so and change nothing that can be seen, nor a bit of what is kept. */
    private static void changesNothing(String what, Call call, int want) {
        MarkovCloner x = busyArchive();
        String before = Check.all(x);
        due(what, call.on(x), want);
        Check.due(what + ": what can be seen", Check.all(x), before);
        Check.due(what + ": rest of the open message", Check.takeAll(x), "011110000101");
        due(what + ": the message being written", x.seal(1), OK);
        keeps(what, x, 0, "1100101011110000101");
        keeps(what, x, 1, "1011010");
        keeps(what, x, 2, "11001");
    }

    private static void keeps(String what, MarkovCloner x, int slot, String bits) {
        due(what + ": open(" + slot + ")", x.open(slot), OK);
        Check.due(what + ": message of slot " + slot, Check.takeAll(x), bits);
    }

    private static void promise1() {
        MarkovCloner x = archive();
        Check.due("new object: writer", Check.writer(x), FRESH);
        Check.due("new object: reader", Check.reader(x), CLOSED);
        Check.due("new object: slots", Check.slots(x), "slots 0:-4,-4,-4, 0:-4,-4,-4, 0:-4,-4,-4,");
        int[][] widths = {{MIN, 1}, {0, 1}, {1, 1}, {2, 2}, {3, 3}, {4, 4}, {5, 4}, {MAX, 4}};
        for (int[] width : widths) {
            MarkovCloner y = new MarkovCloner(width[0], 8, 4, 4);
            due("width " + width[0] + ", writer", y.states(W), width[1]);
            due("width " + width[0] + ", reader", y.states(R), width[1]);
        }
        int[][] limits = {{MIN, 8}, {-1, 8}, {7, 8}, {8, 8}, {9, 9}, {31, 31}, {32, 32}, {33, 32}, {MAX, 32}};
        for (int[] limit : limits) {
            due("maxStates " + limit[0], greatestStates(limit[0]), limit[1]);
        }
        int[][] thresholds = {{MIN, 2}, {0, 2}, {1, 2}, {2, 2}, {3, 3}, {5, 5}, {63, 63}, {64, 64}, {65, 64}, {MAX, 64}};
        for (int[] t : thresholds) {
            sameLearning("t1 " + t[0], new MarkovCloner(1, 32, t[0], 2), new MarkovCloner(1, 32, t[1], 2));
            sameLearning("t2 " + t[0], new MarkovCloner(1, 32, 2, t[0]), new MarkovCloner(1, 32, 2, t[1]));
        }
        clampedThresholds();
        Check.store(x, 0, ALTERNATING);
        x.open(0);
        Check.takeAll(x);
        due("the limits hold for the reader", x.states(R) <= 8 && x.flushes(R) > 0 ? 1 : 0, 1);
    }

    private static int greatestStates(int maxStates) {
        MarkovCloner x = new MarkovCloner(1, maxStates, 2, 2);
        int greatest = 0;
        int bits = 0x2545F491;
        for (int i = 0; i < MarkovCloner.MAX_BITS && x.flushes(W) == 0; i++) {
            bits = bits * 69069 + 1;
            x.put(bits >>> 31, 1);
            greatest = Math.max(greatest, x.states(W));
        }
        return greatest;
    }

    private static void sameLearning(String what, MarkovCloner x, MarkovCloner y) {
        for (int i = 0; i < 5; i++) {
            x.put(i == 3 ? 0x5A5A : 0, 16);
            y.put(i == 3 ? 0x5A5A : 0, 16);
            Check.due(what, Check.writer(x), Check.writer(y));
        }
    }

    private static void clampedThresholds() {
        // The two states take turns: the counts of bit 0 are 2 and 2, then 6 and 2, then 6 and 6, and so on.
        due("t1 = 2 clones at a count of 2", statesAfter(2, 2, 1), 3);
        due("t1 = 3 does not", statesAfter(3, 2, 1), 2);
        due("t2 = 3 does not", statesAfter(2, 3, 1), 2);
        // c is 62 at the 31st bit and 66 at the 33rd; n - c is 2, the successor's count of bit 1
        due("t1 = 64 does not clone at 62", statesAfter(64, 2, 31), 2);
        due("t1 = 64 clones at 66", statesAfter(64, 2, 33), 3);
        due("t1 = 63 does not clone at 62", statesAfter(63, 2, 31), 2);
        due("t1 = 62 clones at 62", statesAfter(62, 2, 31), 3);
        // that clone has a count of 66 * 66 / 68 = 64, and leads on to a state with n = 70 + 2
        due("t1 = 64 clones at 64", statesAfter(64, 2, 34), 4);
        due("t1 = 65 is 64", statesAfter(65, 2, 34), 4);
        // one state, zeros and then a one: c is 2, and n - c is the count of bit 0
        due("t2 = 62 clones at 62", statesAfterOne(62, 15), 2);
        due("t2 = 63 does not clone at 62", statesAfterOne(63, 15), 1);
        due("t2 = 64 does not clone at 62", statesAfterOne(64, 15), 1);
        due("t2 = 64 clones at 66", statesAfterOne(64, 16), 2);
        due("t2 = 67 is 64 and clones at 66", statesAfterOne(67, 16), 2);
        // the last of these bits meets n - c = 64
        String meets64 = "1111111101011111011101";
        due("t2 = 64 clones at 64", statesAfterBits(3, 64, meets64), 3);
        due("t2 = 65 is 64", statesAfterBits(3, 65, meets64), 3);
        // 31 zeros and a one are halved to counts of 63 and 3
        String halved = "0".repeat(31) + "1";
        due("t1 = 63 clones at 63", statesAfterBits(63, 3, halved + "0"), 2);
        due("t1 = 64 does not clone at 63", statesAfterBits(64, 3, halved + "0"), 1);
        due("t2 = 63 clones at 63", statesAfterBits(3, 63, halved + "1"), 2);
        due("t2 = 64 does not clone at 63", statesAfterBits(3, 64, halved + "1"), 1);
    }

    private static int statesAfterOne(int t2, int zeros) {
        return statesAfterBits(2, t2, "0".repeat(zeros) + "1");
    }

    private static int statesAfterBits(int t1, int t2, String bits) {
        MarkovCloner x = new MarkovCloner(1, 32, t1, t2);
        Check.putAll(x, bits);
        return x.states(W);
    }

    private static int statesAfter(int t1, int t2, int zeros) {
        MarkovCloner x = new MarkovCloner(2, 32, t1, t2);
        for (int i = 0; i < zeros; i++) {
            x.put(0, 1);
        }
        return x.states(W);
    }

    private static void promise2() {
        MarkovCloner x = archive();
        due("the highest of n bits first", x.put(0b0110, 4), OK);
        due("other bits are ignored", x.put(0xFFFFFFF8, 3), OK);
        due("a negative value", x.put(-1, 16), OK);
        due("the least int", x.put(MIN, 1), OK);
        due("the 17th bit is ignored", x.put(0x10001, 16), OK);
        due("position", x.position(W), 40);
        due("seal", x.seal(0), OK);
        keeps("put", x, 0, "0110" + "000" + "1111111111111111" + "0" + "0000000000000001");

        MarkovCloner bits = archive();
        MarkovCloner pieces = archive();
        Check.putAll(bits, "1011001110001111");
        pieces.put(0b1011001110001111, 16);
        Check.due("a piece is learned bit by bit", Check.writer(pieces), Check.writer(bits));

        for (int n : WRONG_PIECES) {
            changesNothing("put(5, " + n + ")", y -> y.put(5, n), BAD);
        }
        fullMessage();
        MarkovCloner y = busyArchive();
        String others = Check.reader(y) + Check.slots(y);
        due("put", y.put(0x5555, 16), OK);
        Check.due("put leaves slots and reader", Check.reader(y) + Check.slots(y), others);
    }

    private static void fullMessage() {
        MarkovCloner x = archive();
        for (int i = 0; i < 4; i++) {
            due("put of 16", x.put(0x1234 << i, 16), OK);
        }
        due("put of 15, 79 in all", x.put(0x7FFF, 15), OK);
        String before = Check.all(x);
        due("81 bits", x.put(3, 2), FULL);
        due("95 bits", x.put(3, 16), FULL);
        due("BAD comes before FULL", x.put(3, 17), BAD);
        Check.due("after FULL", Check.all(x), before);
        due("80 bits", x.put(1, 1), OK);
        due("position", x.position(W), 80);
        before = Check.all(x);
        due("81 bits by one", x.put(0, 1), FULL);
        due("BAD on a full message", x.put(0, 0), BAD);
        Check.due("after FULL at 80", Check.all(x), before);
        due("seal of 80 bits", x.seal(2), OK);
        due("lengthOf", x.lengthOf(2), 80);
        StringBuilder bits = new StringBuilder();
        for (int i = 0; i < 4; i++) {
            bits.append(String.format("%16s", Integer.toBinaryString((0x1234 << i) & 0xFFFF)).replace(' ', '0'));
        }
        keeps("80 bits", x, 2, bits + "1111111111111111");
    }

    private static void promise3() {
        MarkovCloner x = archive();
        due("nothing written", x.seal(0), NONE);
        due("nothing written, wrong slot", x.seal(3), BAD);
        Check.putAll(x, ALTERNATING);
        due("flushed before the seal", x.flushes(W) > 0 ? 1 : 0, 1);
        due("seal(0)", x.seal(0), OK);
        Check.due("the writer is fresh", Check.writer(x), FRESH);
        Check.due("the reader stays closed", Check.reader(x), CLOSED);
        due("BUSY comes before NONE", x.seal(0), BUSY);
        due("one bit", x.put(1, 1), OK);
        due("seal(2)", x.seal(2), OK);
        due("lengthOf(0)", x.lengthOf(0), 40);
        due("lengthOf(1)", x.lengthOf(1), 0);
        due("lengthOf(2)", x.lengthOf(2), 1);
        keeps("after seal", x, 0, ALTERNATING);
        keeps("after seal", x, 2, "1");
        for (int slot : WRONG_SLOTS) {
            changesNothing("seal(" + slot + ")", y -> y.seal(slot), BAD);
        }
        changesNothing("seal of a held slot", y -> y.seal(0), BUSY);
        changesNothing("seal of another held slot", y -> y.seal(2), BUSY);

        MarkovCloner y = busyArchive();
        String reader = Check.reader(y);
        due("seal(1)", y.seal(1), OK);
        Check.due("seal leaves the reader", Check.reader(y), reader);
        Check.due("reading goes on", Check.takeAll(y), "011110000101");
        keeps("other slot", y, 2, "11001");
        keeps("the new slot", y, 1, "1011010");
    }

    private static void promise4() {
        MarkovCloner x = archive();
        x.discard();
        Check.due("discard of nothing", Check.writer(x), FRESH);
        Check.putAll(x, ALTERNATING);
        x.discard();
        Check.due("discard", Check.writer(x), FRESH);
        due("the message is lost", x.seal(0), NONE);
        Check.store(x, 0, "0011");
        keeps("after discard", x, 0, "0011");

        MarkovCloner y = busyArchive();
        String others = Check.reader(y) + Check.slots(y);
        y.discard();
        Check.due("discard leaves slots and reader", Check.reader(y) + Check.slots(y), others);
        Check.due("discard makes the writer fresh", Check.writer(y), FRESH);
        Check.due("reading goes on", Check.takeAll(y), "011110000101");
    }

    private static void promise5() {
        MarkovCloner x = archive();
        due("open of a free slot", x.open(1), NONE);
        Check.due("still closed", Check.reader(x), CLOSED);
        Check.store(x, 1, ALTERNATING);
        Check.store(x, 2, "110");
        due("open(1)", x.open(1), OK);
        Check.due("opened", Check.reader(x), CLOSED.replace("slot -4", "slot 1"));
        Check.takeAll(x);
        due("flushed", x.flushes(R) > 0 ? 1 : 0, 1);
        due("open of the same slot", x.open(1), OK);
        Check.due("opened anew", Check.reader(x), CLOSED.replace("slot -4", "slot 1"));
        due("from its start", x.take(4), 0b0101);
        due("open of another slot", x.open(2), OK);
        Check.due("opened on 2", Check.reader(x), CLOSED.replace("slot -4", "slot 2"));
        due("its bits", x.take(3), 0b110);
        for (int slot : WRONG_SLOTS) {
            changesNothing("open(" + slot + ")", y -> y.open(slot), BAD);
        }
        changesNothing("open of a free slot", y -> y.open(1), NONE);

        MarkovCloner y = busyArchive();
        String others = Check.writer(y) + Check.slots(y);
        due("open(2)", y.open(2), OK);
        Check.due("open leaves writer and slots", Check.writer(y) + Check.slots(y), others);
    }

    private static void promise6() {
        MarkovCloner x = archive();
        due("closed", x.take(1), NONE);
        due("closed, 16 bits", x.take(16), NONE);
        for (int n : WRONG_PIECES) {
            due("BAD comes before NONE: take(" + n + ")", x.take(n), BAD);
            changesNothing("take(" + n + ")", y -> y.take(n), BAD);
        }
        changesNothing("take(13) with 12 bits left", y -> y.take(13), SHORT);
        changesNothing("take(16) with 12 bits left", y -> y.take(16), SHORT);

        x.put(0xFFFF, 16);
        x.put(0b0010110, 7);
        x.put(0x8001, 16);
        x.seal(0);
        x.open(0);
        due("16 ones", x.take(16), 65535);
        due("leading zeros", x.take(4), 0b0010);
        due("one bit", x.take(1), 1);
        due("position", x.position(R), 21);
        due("across pieces", x.take(3), 0b101);
        due("more than is left", x.take(16), SHORT);
        due("just what is left", x.take(15), 1);
        due("position at the end", x.position(R), 39);
        String end = Check.all(x);
        for (int n = 1; n <= 16; n++) {
            due("take(" + n + ") at the end", x.take(n), SHORT);
        }
        due("BAD comes before SHORT", x.take(17), BAD);
        Check.due("still open at the end", Check.all(x), end);
        due("readerSlot", x.readerSlot(), 0);
        readerLearns();
    }

    private static void readerLearns() {
        MarkovCloner x = archive();
        MarkovCloner y = archive();
        Check.store(x, 0, ALTERNATING + "110");
        x.open(0);
        String writer = Check.writer(x);
        String slots = Check.slots(x);
        for (int i = 0; i < ALTERNATING.length(); i++) {
            due("bit " + i, x.take(1), i & 1);
            y.put(i & 1, 1);
            Check.due("the reader learns as the writer did", Check.automaton(x, R), Check.automaton(y, W));
        }
        due("rest", x.take(3), 0b110);
        Check.due("take leaves the writer", Check.writer(x), writer);
        Check.due("take leaves the slots", Check.slots(x), slots);
    }

    private static void promise7() {
        for (int slot : WRONG_SLOTS) {
            changesNothing("recode(" + slot + ")", y -> y.recode(slot), BAD);
        }
        changesNothing("recode of a free slot", y -> y.recode(1), NONE);

        MarkovCloner x = busyArchive();
        MarkovCloner same = archive();
        Check.putAll(same, "1011010" + "1100101011110000101" + "11001");
        String others = Check.reader(x) + Check.slots(x);
        due("recode of the open slot", x.recode(0), OK);
        due("recode(2)", x.recode(2), OK);
        Check.due("the writer goes on learning", Check.writer(x), Check.writer(same));
        Check.due("recode leaves slots and reader", Check.reader(x) + Check.slots(x), others);
        Check.due("reading goes on", Check.takeAll(x), "011110000101");
        due("seal", x.seal(1), OK);
        keeps("recoded", x, 1, "1011010" + "1100101011110000101" + "11001");
        keeps("recoded", x, 0, "1100101011110000101");
        fullByRecode();
    }

    private static void fullByRecode() {
        MarkovCloner x = archive();
        Check.store(x, 0, ALTERNATING);
        due("40 bits", x.recode(0), OK);
        due("80 bits", x.recode(0), OK);
        due("position", x.position(W), 80);
        String before = Check.all(x);
        due("120 bits", x.recode(0), FULL);
        due("NONE comes before FULL", x.recode(1), NONE);
        due("BAD comes before FULL", x.recode(3), BAD);
        Check.due("after FULL", Check.all(x), before);
        due("seal", x.seal(1), OK);
        keeps("80 bits", x, 1, ALTERNATING + ALTERNATING);
        due("one bit", x.put(1, 1), OK);
        due("81 bits", x.recode(1), FULL);
        due("position", x.position(W), 1);
        due("41 bits", x.recode(0), OK);
        due("81 bits", x.recode(0), FULL);
        due("position", x.position(W), 41);
        x.discard();
        due("80 bits into a fresh writer", x.recode(1), OK);
        due("seal", x.seal(2), OK);
        due("compare", x.compare(1, 2), MarkovCloner.EQUAL);
    }

    private static void promise8() {
        for (int slot : WRONG_SLOTS) {
            changesNothing("drop(" + slot + ")", y -> y.drop(slot), BAD);
        }
        changesNothing("drop of a free slot", y -> y.drop(1), NONE);

        MarkovCloner x = busyArchive();
        String writer = Check.writer(x);
        due("drop of the open slot", x.drop(0), OK);
        Check.due("the reader is closed", Check.reader(x), CLOSED);
        Check.due("drop leaves the writer", Check.writer(x), writer);
        Check.due("slots", Check.slots(x), "slots 0:-4,-4,-4, 0:-4,-4,-4, 5:-4,-4,0,");
        due("take", x.take(1), NONE);
        due("drop again", x.drop(0), NONE);
        due("the slot can be used again", x.seal(0), OK);
        keeps("used again", x, 0, "1011010");
        keeps("other slot", x, 2, "11001");

        MarkovCloner y = busyArchive();
        String reader = Check.reader(y);
        due("drop of another slot", y.drop(2), OK);
        Check.due("the reader stays", Check.reader(y), reader);
        Check.due("reading goes on", Check.takeAll(y), "011110000101");
        due("flushes of a closed reader", flushesAfterDrop(), 0);

        MarkovCloner z = archive();
        Check.store(z, 1, "101");
        due("drop with a closed reader", z.drop(1), OK);
        Check.due("still closed", Check.reader(z), CLOSED);
        Check.store(z, 1, "0");
        keeps("a shorter message", z, 1, "0");
    }

    private static int flushesAfterDrop() {
        MarkovCloner x = archive();
        Check.store(x, 0, ALTERNATING);
        x.open(0);
        Check.takeAll(x);
        x.drop(0);
        return x.flushes(R);
    }

    private static void promise9() {
        for (int wrong : WRONG_SLOTS) {
            changesNothing("compare(" + wrong + ", 0)", y -> y.compare(wrong, 0), BAD);
            changesNothing("compare(0, " + wrong + ")", y -> y.compare(0, wrong), BAD);
            changesNothing("BAD comes before NONE", y -> y.compare(1, wrong), BAD);
            changesNothing("BAD comes before NONE", y -> y.compare(wrong, 1), BAD);
            changesNothing("both wrong", y -> y.compare(wrong, wrong), BAD);
        }
        changesNothing("compare(0, 1)", y -> y.compare(0, 1), NONE);
        changesNothing("compare(1, 0)", y -> y.compare(1, 0), NONE);
        changesNothing("a free slot with itself", y -> y.compare(1, 1), NONE);
        order("1", "1", MarkovCloner.EQUAL);
        order("0", "1", MarkovCloner.LESS);
        order("1", "10", MarkovCloner.LESS);
        order("0", "00", MarkovCloner.LESS);
        order("01111", "1", MarkovCloner.LESS);
        order("0110", "0111", MarkovCloner.LESS);
        order("0010", "01", MarkovCloner.LESS);
        order(ALTERNATING, ALTERNATING, MarkovCloner.EQUAL);
        order(ALTERNATING, ALTERNATING + "0", MarkovCloner.LESS);
        order(ALTERNATING + ALTERNATING.substring(1) + "0", ALTERNATING + ALTERNATING.substring(1) + "1",
            MarkovCloner.LESS);
        MarkovCloner x = busyArchive();
        String before = Check.all(x);
        due("compare(0, 2)", x.compare(0, 2), MarkovCloner.GREATER);
        due("compare(2, 0)", x.compare(2, 0), MarkovCloner.LESS);
        due("compare(2, 2)", x.compare(2, 2), MarkovCloner.EQUAL);
        Check.due("compare changes nothing", Check.all(x), before);
        Check.due("reading goes on", Check.takeAll(x), "011110000101");
    }

    private static void order(String a, String b, int want) {
        MarkovCloner x = archive();
        Check.store(x, 0, a);
        Check.store(x, 2, b);
        due(a + " with " + b, x.compare(0, 2), want);
        due(b + " with " + a, x.compare(2, 0), want == MarkovCloner.LESS ? MarkovCloner.GREATER : want);
        due(a + " with itself", x.compare(0, 0), MarkovCloner.EQUAL);
    }

    private static void promise10() {
        for (int slot : WRONG_SLOTS) {
            changesNothing("lengthOf(" + slot + ")", y -> y.lengthOf(slot), BAD);
        }
        changesNothing("lengthOf(0)", y -> y.lengthOf(0), 19);
        changesNothing("lengthOf of a free slot", y -> y.lengthOf(1), 0);
        changesNothing("lengthOf(2)", y -> y.lengthOf(2), 5);
        MarkovCloner x = archive();
        Check.store(x, 0, "0");
        Check.store(x, 1, ALTERNATING + ALTERNATING);
        due("the least length", x.lengthOf(0), 1);
        due("the greatest length", x.lengthOf(1), 80);
        x.drop(1);
        due("after drop", x.lengthOf(1), 0);
    }

    private static void promise11() {
        changesNothing("readerSlot()", y -> y.readerSlot(), 0);
        MarkovCloner x = archive();
        due("closed", x.readerSlot(), NONE);
        for (int slot = 0; slot < MarkovCloner.SLOTS; slot++) {
            Check.store(x, slot, "10");
            x.open(slot);
            due("open on " + slot, x.readerSlot(), slot);
        }
        Check.takeAll(x);
        due("at the end of the message", x.readerSlot(), 2);
        x.drop(1);
        due("another slot dropped", x.readerSlot(), 2);
        x.drop(2);
        due("its slot dropped", x.readerSlot(), NONE);
    }

    private static void promise12() {
        wrongSides("position", (x, side) -> x.position(side));
        changesNothing("position(WRITER)", y -> y.position(W), 7);
        changesNothing("position(READER)", y -> y.position(R), 7);
        MarkovCloner x = archive();
        Check.store(x, 0, "10110");
        x.put(0, 9);
        due("writer", x.position(W), 9);
        due("closed reader", x.position(R), 0);
        x.open(0);
        x.take(2);
        due("reader", x.position(R), 2);
        x.take(3);
        due("reader at the end", x.position(R), 5);
        x.drop(0);
        due("closed by drop", x.position(R), 0);
        x.seal(0);
        due("writer after seal", x.position(W), 0);
    }

    private interface Look {
        int on(MarkovCloner x, int side);
    }

    private static void wrongSides(String what, Look look) {
        for (int side : WRONG_SIDES) {
            changesNothing(what + "(" + side + ")", y -> look.on(y, side), BAD);
        }
    }

    private static void promise13() {
        wrongSides("states", (x, side) -> x.states(side));
        bothSides("states", "", (x, side) -> x.states(side), 1);
        bothSides("states", "0101010101010", (x, side) -> x.states(side), 8);
        bothSides("states after a flush", "0101010101010101", (x, side) -> x.states(side), 1);
    }

    private static void promise14() {
        wrongSides("current", (x, side) -> x.current(side));
        bothSides("current", "", (x, side) -> x.current(side), 0);
        bothSides("current", "0101010101010", (x, side) -> x.current(side), 7);
        bothSides("current after a flush", "0101010101010101", (x, side) -> x.current(side), 0);
    }

    private static void promise15() {
        wrongSides("flushes", (x, side) -> x.flushes(side));
        bothSides("flushes", "0101010101010", (x, side) -> x.flushes(side), 0);
        bothSides("flushes after a flush", "0101010101010101", (x, side) -> x.flushes(side), 1);
        bothSides("flushes after two", "01010101010101010101010101010101", (x, side) -> x.flushes(side), 2);
    }

    /** The same look at the writer that wrote the bits and at the reader that read them; then both fresh. */
    private static void bothSides(String what, String bits, Look look, int want) {
        MarkovCloner x = new MarkovCloner(1, 8, 4, 4);
        int fresh = look.on(x, W);
        due(what + ", closed reader", look.on(x, R), fresh);
        Check.putAll(x, bits);
        due(what + ", writer", look.on(x, W), want);
        due(what + ", reader stays closed", look.on(x, R), fresh);
        x.put(1, 1);
        x.seal(0);
        due(what + ", fresh writer", look.on(x, W), fresh);
        x.open(0);
        for (int i = 0; i < bits.length(); i++) {
            x.take(1);
        }
        due(what + ", reader", look.on(x, R), want);
        due(what + ", writer stays fresh", look.on(x, W), fresh);
        x.drop(0);
        due(what + ", reader closed again", look.on(x, R), fresh);
    }

    private static void promise16() {
        wrongCells("next", (x, side, state, bit) -> x.next(side, state, bit));
        bothSides("next(0, 0)", "0101010101010", (x, side) -> x.next(side, 0, 0), 1);
        bothSides("next(1, 1)", "0101010101010", (x, side) -> x.next(side, 1, 1), 2);
        bothSides("next(6, 1)", "0101010101010", (x, side) -> x.next(side, 6, 1), 0);
        bothSides("next(7, 1)", "0101010101010", (x, side) -> x.next(side, 7, 1), 6);
        bothSides("next(8, 1)", "0101010101010", (x, side) -> x.next(side, 8, 1), BAD);
        bothSides("next(7, 1) after a flush", "0101010101010101", (x, side) -> x.next(side, 7, 1), BAD);
        bothSides("next(1, 1) after a flush", "0101010101010101", (x, side) -> x.next(side, 1, 1), BAD);
        bothSides("next(0, 0) after a flush", "0101010101010101", (x, side) -> x.next(side, 0, 0), 0);
    }

    private static void promise17() {
        wrongCells("count", (x, side, state, bit) -> x.count(side, state, bit));
        bothSides("count(0, 0)", "0101010101010", (x, side) -> x.count(side, 0, 0), 6);
        bothSides("count(1, 1)", "0101010101010", (x, side) -> x.count(side, 1, 1), 8);
        bothSides("count(6, 1)", "0101010101010", (x, side) -> x.count(side, 6, 1), 1);
        bothSides("count(7, 1)", "0101010101010", (x, side) -> x.count(side, 7, 1), 3);
        bothSides("count(8, 1)", "0101010101010", (x, side) -> x.count(side, 8, 1), BAD);
        bothSides("count(7, 1) after a flush", "0101010101010101", (x, side) -> x.count(side, 7, 1), BAD);
        bothSides("count(1, 1) after a flush", "0101010101010101", (x, side) -> x.count(side, 1, 1), BAD);
        bothSides("count(0, 0) after a flush", "0101010101010101", (x, side) -> x.count(side, 0, 0), 2);
    }

    private interface CellLook {
        int on(MarkovCloner x, int side, int state, int bit);
    }

    private static void wrongCells(String what, CellLook look) {
        wrongSides(what, (x, side) -> look.on(x, side, 0, 0));
        for (int side = W; side <= R; side++) {
            int s = side;
            for (int state : new int[] {MIN, -1, 32, 64, MAX}) {
                changesNothing(what + " of state " + state, y -> look.on(y, s, state, 1), BAD);
            }
            for (int bit : new int[] {MIN, -1, 2, 3, MAX}) {
                changesNothing(what + " of bit " + bit, y -> look.on(y, s, 0, bit), BAD);
            }
            MarkovCloner x = busyArchive();
            due(what + " of the first state that is not there", look.on(x, s, x.states(s), 0), BAD);
            int last = look.on(x, s, x.states(s) - 1, 0);
            due(what + " of the last state is an answer", last >= 0 ? 1 : 0, 1);
        }
    }

    public static void main(String[] args) {
        promise1();
        promise2();
        promise3();
        promise4();
        promise5();
        promise6();
        promise7();
        promise8();
        promise9();
        promise10();
        promise11();
        promise12();
        promise13();
        promise14();
        promise15();
        promise16();
        promise17();
        Check.finish();
    }
}
