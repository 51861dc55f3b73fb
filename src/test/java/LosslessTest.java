/** Messages that are hard on an arithmetic coder must come back bit by bit. */
public final class LosslessTest {
    private static final int W = MarkovCloner.WRITER;
    private static final int[][] LIMITS = {
        {1, 8, 2, 2}, {1, 32, 2, 2}, {1, 32, 4, 4}, {1, 8, 64, 64}, {2, 32, 6, 2},
        {3, 12, 3, 9}, {4, 32, 64, 64}, {4, 32, 2, 2}, {4, 8, 8, 8}, {1, 32, 64, 2}, {1, 32, 2, 64}};

    private static MarkovCloner archive(int[] limits) {
        return new MarkovCloner(limits[0], limits[1], limits[2], limits[3]);
    }

    private static void comesBack(String what, MarkovCloner x, String bits) {
        Check.due(what + ": seal", x.seal(1), MarkovCloner.OK);
        Check.due(what + ": open", x.open(1), MarkovCloner.OK);
        Check.due(what, Check.takeAll(x), bits);
        Check.due(what + ": recode", x.recode(1), MarkovCloner.OK);
        Check.due(what + ": seal again", x.seal(2), MarkovCloner.OK);
        Check.due(what + ": compare", x.compare(1, 2), MarkovCloner.EQUAL);
    }

    private static int tally(MarkovCloner x, int bit) {
        return x.count(W, x.current(W), bit);
    }

    private static void everyShortMessage() {
        for (int[] limits : LIMITS) {
            for (int length = 1; length <= 10; length++) {
                for (int value = 0; value < 1 << length; value++) {
                    MarkovCloner x = archive(limits);
                    x.put(value, length);
                    x.seal(0);
                    x.open(0);
                    Check.due("message " + value + " of " + length + " bits", x.take(length), value);
                }
            }
        }
    }

    // the code is longest where each bit is the one that was expected less
    private static void leastExpectedBits() {
        for (int[] limits : LIMITS) {
            for (int expectedFirst = 0; expectedFirst < MarkovCloner.MAX_BITS; expectedFirst++) {
                MarkovCloner x = archive(limits);
                StringBuilder bits = new StringBuilder();
                for (int i = 0; i < MarkovCloner.MAX_BITS; i++) {
                    int rare = tally(x, 0) < tally(x, 1) ? 0 : 1;
                    int bit = i < expectedFirst ? 1 - rare : rare;
                    x.put(bit, 1);
                    bits.append(bit);
                }
                comesBack("least expected bits after " + expectedFirst, x, bits.toString());
            }
        }
    }

    // A coder of 32 bits is in want of room where its interval closes in on a
    // point between two first bytes: these bits lead it there.
    private static void closingInOn(long point, int[] limits, int tail) {
        MarkovCloner x = archive(limits);
        StringBuilder bits = new StringBuilder();
        long low = 0;
        long high = 0xFFFFFFFFL;
        while (bits.length() < MarkovCloner.MAX_BITS) {
            int zeros = tally(x, 0);
            long split = low + (high - low) * zeros / (zeros + tally(x, 1));
            int bit = split >= point ? 0 : 1;
            if (high - low <= 1 || split == point - 1) {
                bit = (tail >>> (bits.length() % 8)) & 1;
            } else if (bit == 0) {
                high = split;
            } else {
                low = split + 1;
            }
            x.put(bit, 1);
            bits.append(bit);
        }
        comesBack("closing in on " + point, x, bits.toString());
    }

    private static void narrowIntervals() {
        for (int[] limits : LIMITS) {
            for (long firstByte = 1; firstByte < 256; firstByte++) {
                closingInOn(firstByte << 24, limits, 0x00);
                closingInOn(firstByte << 24, limits, 0xFF);
                closingInOn(firstByte << 24, limits, 0x96);
            }
        }
    }

    private static void oneBitRuns() {
        for (int[] limits : LIMITS) {
            for (int length = 1; length <= MarkovCloner.MAX_BITS; length++) {
                for (int bit = 0; bit < 2; bit++) {
                    MarkovCloner x = archive(limits);
                    String bits = String.valueOf(bit).repeat(length);
                    Check.putAll(x, bits);
                    x.seal(0);
                    x.open(0);
                    Check.due("a run of " + length, Check.takeAll(x), bits);
                }
            }
        }
    }

    public static void main(String[] args) {
        everyShortMessage();
        leastExpectedBits();
        narrowIntervals();
        oneBitRuns();
        Check.finish();
    }
}
