/** The sentences of "What it is": what is sealed comes back bit by bit, also where it is hard on the coder. */
public final class LosslessTest extends Scenes {
    private static final int[][] LIMITS = {
        {1, 8, 2, 2}, {1, 32, 2, 2}, {1, 32, 4, 4}, {1, 8, 64, 64}, {2, 32, 6, 2},
        {3, 12, 3, 9}, {4, 32, 64, 64}, {4, 32, 2, 2}, {4, 8, 8, 8}, {1, 32, 64, 2}, {1, 32, 2, 64}};

    private static MarkovCloner archive(int[] limits) {
        return new MarkovCloner(limits[0], limits[1], limits[2], limits[3]);
    }

    private static void comesBack(String what, MarkovCloner x, String bits) {
        Check.due(what + ": seal", x.seal(1), MarkovCloner.OK);
        Check.due(what + ": open", x.open(1), MarkovCloner.OK);
        Check.due(what, Check.takeAll(x), bits);
        Check.due(what + ": recode", x.recode(1), MarkovCloner.OK);
        Check.due(what + ": seal again", x.seal(2), MarkovCloner.OK);
        Check.due(what + ": compare", x.compare(1, 2), MarkovCloner.EQUAL);
    }

    private static int tally(MarkovCloner x, int bit) {
        return x.count(W, x.current(W), bit);
    }

    /** 80 bits: expected ones first, then each the one that was expected less, which makes the longest codes. */
    private static String leastExpected(int[] limits, int expectedFirst) {
        MarkovCloner x = archive(limits);
        StringBuilder bits = new StringBuilder();
        for (int i = 0; i < MarkovCloner.MAX_BITS; i++) {
            int rare = tally(x, 0) < tally(x, 1) ? 0 : 1;
            int bit = i < expectedFirst ? 1 - rare : rare;
            x.put(bit, 1);
            bits.append(bit);
        }
        return bits.toString();
    }

    private static void everyShortMessage() {
        for (int[] limits : LIMITS) {
            for (int length = 1; length <= 10; length++) {
                for (int value = 0; value < 1 << length; value++) {
                    MarkovCloner x = archive(limits);
                    x.put(value, length);
                    x.seal(0);
                    x.open(0);
                    Check.due("message " + value + " of " + length + " bits", x.take(length), value);
                }
            }
        }
    }

    private static void leastExpectedBits() {
        for (int[] limits : LIMITS) {
            for (int expectedFirst = 0; expectedFirst < MarkovCloner.MAX_BITS; expectedFirst++) {
                String bits = leastExpected(limits, expectedFirst);
                MarkovCloner x = archive(limits);
                Check.putAll(x, bits);
                comesBack("least expected bits after " + expectedFirst, x, bits);
            }
        }
    }

    // A coder of 32 bits is in want of room where its interval closes in on a
    // point between two first bytes: these bits lead it there.
    private static void closingInOn(long point, int[] limits, int tail) {
        MarkovCloner x = archive(limits);
        StringBuilder bits = new StringBuilder();
        long low = 0;
        long high = 0xFFFFFFFFL;
        while (bits.length() < MarkovCloner.MAX_BITS) {
            int zeros = tally(x, 0);
            long split = low + (high - low) * zeros / (zeros + tally(x, 1));
            int bit = split >= point ? 0 : 1;
            if (high - low <= 1 || split == point - 1) {
                bit = (tail >>> (bits.length() % 8)) & 1;
            } else if (bit == 0) {
                high = split;
            } else {
                low = split + 1;
            }
            x.put(bit, 1);
            bits.append(bit);
        }
        comesBack("closing in on " + point, x, bits.toString());
    }

    private static void narrowIntervals() {
        for (int[] limits : LIMITS) {
            for (long firstByte = 1; firstByte < 256; firstByte++) {
                closingInOn(firstByte << 24, limits, 0x00);
                closingInOn(firstByte << 24, limits, 0xFF);
                closingInOn(firstByte << 24, limits, 0x96);
            }
        }
    }

    private static void oneBitRuns() {
        for (int[] limits : LIMITS) {
            for (int length = 1; length <= MarkovCloner.MAX_BITS; length++) {
                for (int bit = 0; bit < 2; bit++) {
                    MarkovCloner x = archive(limits);
                    String bits = String.valueOf(bit).repeat(length);
                    Check.putAll(x, bits);
                    x.seal(0);
                    x.open(0);
                    Check.due("a run of " + length, Check.takeAll(x), bits);
                }
            }
        }
    }

    // Sealing

    private static void slotsKeepTheirOwnCode() {
        int[][] orders = {{0, 1, 2}, {0, 2, 1}, {1, 0, 2}, {1, 2, 0}, {2, 0, 1}, {2, 1, 0}};
        for (int[] limits : LIMITS) {
            String[] bits = {leastExpected(limits, 0), leastExpected(limits, 7), leastExpected(limits, 31)};
            for (int[] order : orders) {
                MarkovCloner x = archive(limits);
                for (int slot : order) {
                    Check.store(x, slot, bits[slot]);
                }
                allKept("three long codes", x, bits);
                // a code of another length in the place of a long one
                for (int slot : order) {
                    String[] two = bits.clone();
                    two[slot] = slot == 0 ? "1" : slot == 1 ? ZEROS : bits[slot].substring(3);
                    due("drop", x.drop(slot), OK);
                    Check.store(x, slot, two[slot]);
                    allKept("two long codes", x, two);
                    due("drop", x.drop(slot), OK);
                    Check.store(x, slot, bits[slot]);
                }
                allKept("three long codes again", x, bits);
            }
        }
    }

    private static void allKept(String what, MarkovCloner x, String[] bits) {
        for (int slot = 0; slot < 3; slot++) {
            due(what + ": length", x.lengthOf(slot), bits[slot].length());
            Check.keeps(what, x, slot, bits[slot]);
        }
    }

    /** Runs of one bit have codes that hardly differ, if at all: only the stated length tells them apart. */
    private static void lengthIsStated() {
        for (int[] limits : LIMITS) {
            for (int length = 1; length < 80; length++) {
                for (String run : new String[] {ZEROS, ONES}) {
                    MarkovCloner x = archive(limits);
                    String[] bits = {run.substring(0, length), run.substring(0, length + 1), run};
                    for (int slot = 0; slot < 3; slot++) {
                        Check.store(x, slot, bits[slot]);
                    }
                    allKept("a run of " + length, x, bits);
                    due("a run with a longer one", x.compare(0, 1), MarkovCloner.LESS);
                }
            }
        }
    }

    // Reading

    private static void readerRebuildsTheAutomaton() {
        for (int[] limits : LIMITS) {
            for (String bits : new String[] {
                ZEROS, ONES, FULL_LENGTH, ALTERNATING + ALTERNATING, leastExpected(limits, 0), leastExpected(limits, 9)}) {
                MarkovCloner x = archive(limits);
                MarkovCloner twin = archive(limits);
                Check.store(x, 1, bits);
                due("open", x.open(1), OK);
                for (int i = 0; i < bits.length(); i++) {
                    Check.due("before bit " + i, Check.automaton(x, R), Check.automaton(twin, W));
                    due("bit " + i, x.take(1), bits.charAt(i) - '0');
                    due("the same bit", twin.put(bits.charAt(i) - '0', 1), OK);
                }
                Check.due("at the end", Check.automaton(x, R), Check.automaton(twin, W));
            }
        }
    }

    // No answer depends on the code

    /** However a message came into its slot, and whatever the object did before, all answers are the same. */
    private static void wayOfWritingIsNotSeen() {
        for (int[] limits : LIMITS) {
            String bits = leastExpected(limits, 5);
            MarkovCloner plain = archive(limits);
            Check.store(plain, 0, bits);
            String want = now(plain);
            Check.due("in pieces", now(inPieces(archive(limits), bits)), want);
            Check.due("recoded", now(recoded(archive(limits), bits)), want);
            Check.due("after much else", now(inPieces(usedBefore(limits), bits)), want);
        }
    }

    private static MarkovCloner inPieces(MarkovCloner x, String bits) {
        int n = 1;
        for (int at = 0; at < bits.length(); at += n) {
            n = Math.min(bits.length() - at, 1 + at * 7 % 16);
            due("put", x.put(Integer.parseInt(bits.substring(at, at + n), 2), n), OK);
        }
        due("seal", x.seal(0), OK);
        return x;
    }

    private static MarkovCloner recoded(MarkovCloner x, String bits) {
        Check.store(x, 1, bits.substring(0, 33));
        Check.store(x, 2, bits.substring(33));
        due("recode", x.recode(1), OK);
        due("recode", x.recode(2), OK);
        due("drop", x.drop(1), OK);
        due("drop", x.drop(2), OK);
        due("seal", x.seal(0), OK);
        return x;
    }

    private static MarkovCloner usedBefore(int[] limits) {
        MarkovCloner x = archive(limits);
        for (int slot = 0; slot < 3; slot++) {
            Check.store(x, slot, leastExpected(limits, slot));
            due("open", x.open(slot), OK);
            Check.due("take", x.take(11) >= 0, true);
        }
        due("recode", x.recode(1), OK);
        Check.due("compare", x.compare(0, 1) >= 0, true);
        for (int slot = 0; slot < 3; slot++) {
            due("drop", x.drop(slot), OK);
        }
        x.discard();
        return x;
    }

    private static void decodingIsLossless() {
        everyShortMessage();
        leastExpectedBits();
        narrowIntervals();
        oneBitRuns();
    }

    public static void main(String[] args) {
        Check.part("What it is");
        Check.sentence("Sealing a message puts its code and its stated length into one of `SLOTS` slots.", () -> {
            slotsKeepTheirOwnCode();
            lengthIsStated();
        });
        Check.sentence("A **reader** decodes a sealed message bit by bit, rebuilding the same automaton as it goes.",
            LosslessTest::readerRebuildsTheAutomaton);
        Check.sentence("Decoding is lossless.", LosslessTest::decodingIsLossless);
        Check.sentence("The code, its length and the coder's interval are never visible and no answer depends on them;"
            + " every answer is fixed by the rules below.", LosslessTest::wayOfWritingIsNotSeen);
        Check.finish();
    }
}
