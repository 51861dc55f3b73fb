/** The steps of learning a bit, with values worked out by hand from the document. */
public final class AutomatonTest {
    private static final int W = MarkovCloner.WRITER;

    private static void after(String what, MarkovCloner x, String bits, String want) {
        Check.putAll(x, bits);
        Check.due(what, Check.automaton(x, W), want);
    }

    private static void initialShape() {
        after("width 1", new MarkovCloner(1, 8, 4, 4), "", "1 at 0 flushes 0 | 0 0 2 2");
        after("width 2", new MarkovCloner(2, 8, 4, 4), "", "2 at 0 flushes 0 | 1 1 2 2 | 0 0 2 2");
        after("width 4", new MarkovCloner(4, 8, 4, 4), "",
            "4 at 0 flushes 0 | 1 1 2 2 | 2 2 2 2 | 3 3 2 2 | 0 0 2 2");
    }

    private static void countAndMove() {
        MarkovCloner x = new MarkovCloner(2, 8, 64, 64);
        after("bit 1", x, "1", "2 at 1 flushes 0 | 1 1 2 6 | 0 0 2 2");
        after("bit 0", x, "0", "2 at 0 flushes 0 | 1 1 2 6 | 0 0 6 2");
        after("bit 0 again", x, "0", "2 at 1 flushes 0 | 1 1 6 6 | 0 0 6 2");
    }

    private static void thresholds() {
        String cloned = "3 at 2 flushes 0 | 2 1 10 2 | 0 0 2 1 | 0 0 4 1";
        String kept = "2 at 1 flushes 0 | 1 1 10 2 | 0 0 6 2";
        after("c = t1, n - c = t2", new MarkovCloner(2, 8, 6, 2), "000", cloned);
        after("c > t1", new MarkovCloner(2, 8, 5, 2), "000", cloned);
        after("c < t1", new MarkovCloner(2, 8, 7, 2), "000", kept);
        after("n - c < t2", new MarkovCloner(2, 8, 6, 3), "000", kept);
    }

    private static void clones() {
        MarkovCloner x = new MarkovCloner(2, 8, 6, 2);
        after("first clone", x, "000", "3 at 2 flushes 0 | 2 1 10 2 | 0 0 2 1 | 0 0 4 1");
        after("c < t1 after a clone", x, "0", "3 at 0 flushes 0 | 2 1 10 2 | 0 0 2 1 | 0 0 8 1");
        after("n - c negative", x, "0", "3 at 2 flushes 0 | 2 1 14 2 | 0 0 2 1 | 0 0 8 1");
        after("a clone keeps the successors of its original", x, "0",
            "4 at 3 flushes 0 | 2 1 7 1 | 0 0 2 1 | 3 0 12 1 | 2 1 7 1");
        after("a share of 0 becomes a count of 1", x, "0",
            "5 at 4 flushes 0 | 2 1 7 1 | 0 0 2 1 | 3 0 6 1 | 4 1 11 1 | 3 0 6 1");
    }

    private static void cloneOfItself() {
        // c = 2, n = 4: all shares are 1, then the count of the bit grows from 1
        after("bit 0", new MarkovCloner(1, 8, 2, 2), "0", "2 at 1 flushes 0 | 1 0 5 1 | 0 0 1 1");
        after("bit 1", new MarkovCloner(1, 8, 2, 2), "1", "2 at 1 flushes 0 | 0 1 1 5 | 0 0 1 1");
        // c = 6, n = 12: both shares must come from the counts before the clone
        after("counts 6 and 6, bit 0", new MarkovCloner(1, 8, 6, 3), "010", "2 at 1 flushes 0 | 1 0 7 3 | 0 0 3 3");
        after("counts 6 and 6, bit 1", new MarkovCloner(1, 8, 6, 3), "011", "2 at 1 flushes 0 | 0 1 3 7 | 0 0 3 3");
        // c = 10, n = 16: shares 6 (of 6.25) and 3 (of 3.75)
        after("counts 10 and 6", new MarkovCloner(1, 8, 10, 6), "0100", "2 at 1 flushes 0 | 1 0 8 3 | 0 0 6 3");
    }

    private static void halving() {
        MarkovCloner x = new MarkovCloner(1, 8, 64, 64);
        String zeros = "0000000000000000000000000000000";
        after("a sum of 128 is left", x, zeros, "1 at 0 flushes 0 | 0 0 126 2");
        after("a sum of 132 is halved, 130 and 2", x, "0", "1 at 0 flushes 0 | 0 0 65 1");
        after("odd counts", x, "11111111111111", "1 at 0 flushes 0 | 0 0 65 57");
        after("a sum of 126 is left", x, "1", "1 at 0 flushes 0 | 0 0 65 61");
        after("a sum of 130 is halved upwards, 65 and 65", x, "1", "1 at 0 flushes 0 | 0 0 33 33");
    }

    private static void flush() {
        String limit = " | 1 0 6 2 | 0 2 2 8 | 3 0 7 1 | 0 4 1 6 | 5 0 6 1 | 0 6 1 6";
        MarkovCloner x = new MarkovCloner(1, 8, 4, 4);
        after("the states are at their limit", x, "0101010101010",
            "8 at 7 flushes 0" + limit + " | 7 0 8 1 | 0 6 1 3");
        after("no flush while the condition does not hold", x, "10",
            "8 at 7 flushes 0" + limit + " | 7 0 12 1 | 0 6 1 7");
        // c = 7, n = 13: n - c = 6 >= 4, and no state can be added
        after("flush: initial shape, no count, no move", x, "1", "1 at 0 flushes 1 | 0 0 2 2");
        Check.due("the bit still counts as written", x.position(W), 16);
        after("learning goes on", x, "1", "1 at 0 flushes 1 | 0 0 2 6");

        after("with one state more allowed it is a clone", new MarkovCloner(1, 9, 4, 4), "0101010101010101",
            "9 at 8 flushes 0" + limit + " | 7 0 6 1 | 0 8 1 11 | 7 0 6 1");
    }

    private static void flushOfWiderShape() {
        MarkovCloner x = new MarkovCloner(3, 8, 2, 2);
        int bits = 0;
        while (x.flushes(W) == 0 && bits < MarkovCloner.MAX_BITS) {
            x.put(bits & 1, 1);
            bits++;
        }
        Check.due("flush of width 3", Check.automaton(x, W), "3 at 0 flushes 1 | 1 1 2 2 | 2 2 2 2 | 0 0 2 2");
    }

    public static void main(String[] args) {
        initialShape();
        countAndMove();
        thresholds();
        clones();
        cloneOfItself();
        halving();
        flush();
        flushOfWiderShape();
        Check.finish();
    }
}
