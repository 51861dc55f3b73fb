/**
 * The sentences of "The automaton". The automata that are due come from the document's steps, not from the class:
 * in part worked out by hand, in part from a separate copy of the steps; the comments tell c, n and the shares.
 */
public final class AutomatonTest extends Scenes {
    /** The first six states of (1, 8, 4, 4) and (1, 9, 4, 4) after 13 alternating bits or more. */
    private static final String SIX = " | 1 0 6 2 | 0 2 2 8 | 3 0 7 1 | 0 4 1 6 | 5 0 6 1 | 0 6 1 6";

    private static MarkovCloner limited(int width, int maxStates, int t1, int t2) {
        return new MarkovCloner(width, maxStates, t1, t2);
    }

    /** What a new object's writer has learned of the bits, and then its reader of the same bits. */
    private static void learned(String what, MarkovCloner x, String bits, String want) {
        Check.putAll(x, bits);
        Check.due(what + ", writer", Check.automaton(x, W), want);
        due("seal", x.seal(0), bits.isEmpty() ? NONE : OK);
        due("open", x.open(0), bits.isEmpty() ? NONE : OK);
        Check.takeAll(x);
        Check.due(what + ", reader", Check.automaton(x, R), want);
    }

    private static void sidesAreIndependent() {
        MarkovCloner x = archive();
        Check.putAll(x, ALTERNATING);
        Check.due("writing leaves the reader's", Check.automaton(x, R), FRESH_AUTOMATON);
        due("seal", x.seal(0), OK);
        due("open", x.open(0), OK);
        for (int i = 0; i < ALTERNATING.length(); i++) {
            due("take", x.take(1), i & 1);
            Check.due("reading leaves the writer's", Check.automaton(x, W), FRESH_AUTOMATON);
        }
        Check.due("a flush of the reader only", x.flushes(W) + " " + (x.flushes(R) > 0), "0 true");
        String reader = Check.automaton(x, R);
        Check.putAll(x, FULL_LENGTH);
        Check.due("writing leaves the reader's at its place", Check.automaton(x, R), reader);
        bothOfTheGreatestSize();
    }

    private static void bothOfTheGreatestSize() {
        MarkovCloner x = limited(1, 32, 2, 2);
        int states = 1;
        int length = 0;
        for (int bits = 7; length < 80 && states < 32; length++) {
            bits = bits * 69069 + 1;
            due("put", x.put(bits >>> 31, 1), OK);
            states = x.states(W);
        }
        due("32 states", states, 32);
        String whole = Check.automaton(x, W);
        due("seal", x.seal(2), OK);
        due("open", x.open(2), OK);
        due("bits read", Check.takeAll(x).length(), length);
        Check.due("32 states of the reader", Check.automaton(x, R), whole);
        due("recode", x.recode(2), OK);
        Check.due("32 states of the writer beside them", Check.automaton(x, W), whole);
        Check.due("which stay", Check.automaton(x, R), whole);
        x.discard();
        Check.due("which stay after discard", Check.automaton(x, R), whole);
    }

    private static void statesAndCountsInRange() {
        for (int[] t : new int[][] {{2, 2}, {3, 2}, {2, 3}, {4, 4}, {2, 64}, {64, 2}, {64, 64}, {8, 16}}) {
            MarkovCloner x = limited(1, 32, t[0], t[1]);
            // rare bits have small counts, which clones and halvings make smaller
            for (int i = 0; i < 80; i++) {
                x.put(i % 13 == 12 ? 1 : 0, 1);
                inRange(x);
            }
        }
        learned("a count of 1 is halved to 1", limited(1, 9, 3, 64), "1".repeat(48), "1 at 0 flushes 0 | 0 0 1 65");
        learned("a count of 1 is shared out as 1 and 1", limited(1, 32, 4, 2), "111",
            "3 at 2 flushes 0 | 0 1 1 3 | 0 2 1 8 | 0 1 1 3");
    }

    private static void inRange(MarkovCloner x) {
        int states = x.states(W);
        Check.due("current is a state", x.current(W) >= 0 && x.current(W) < states, true);
        for (int s = 0; s < states; s++) {
            for (int b = 0; b < 2; b++) {
                Check.due("next is a state", x.next(W, s, b) >= 0 && x.next(W, s, b) < states, true);
                Check.due("count is 1 or more", x.count(W, s, b) >= 1, true);
            }
        }
    }

    private static void initialShape() {
        learned("width 1: the state leads to itself", limited(1, 8, 4, 4), "", "1 at 0 flushes 0 | 0 0 2 2");
        learned("width 2", limited(2, 8, 4, 4), "", "2 at 0 flushes 0 | 1 1 2 2 | 0 0 2 2");
        learned("width 3", limited(3, 8, 4, 4), "", "3 at 0 flushes 0 | 1 1 2 2 | 2 2 2 2 | 0 0 2 2");
        learned("width 4: the last leads to the first", limited(4, 8, 4, 4), "",
            "4 at 0 flushes 0 | 1 1 2 2 | 2 2 2 2 | 3 3 2 2 | 0 0 2 2");
        learned("width 4, once around", limited(4, 8, 64, 64), "0101",
            "4 at 0 flushes 0 | 1 1 6 2 | 2 2 2 6 | 3 3 6 2 | 0 0 2 6");
    }

    private static void freshAutomaton() {
        MarkovCloner x = flushed();
        x.discard();
        Check.due("the writer's after a flush", Check.automaton(x, W), FRESH_AUTOMATON);
        due("open", x.open(1), OK);
        Check.due("the reader's after a flush", Check.automaton(x, R), FRESH_AUTOMATON);
    }

    private static void targetMayBeTheStateItself() {
        // c = 2, n = 4: all shares are 1, then the count of the bit grows from 1 to 5
        learned("bit 0", limited(1, 8, 2, 2), "0", "2 at 1 flushes 0 | 1 0 5 1 | 0 0 1 1");
        learned("bit 1", limited(1, 8, 2, 2), "1", "2 at 1 flushes 0 | 0 1 1 5 | 0 0 1 1");
        learned("without a clone", limited(1, 8, 64, 64), "00", "1 at 0 flushes 0 | 0 0 10 2");
    }

    private static void thresholds() {
        // the third zero meets c = 6 and n - c = 8 - 6 = 2
        String cloned = "3 at 2 flushes 0 | 2 1 10 2 | 0 0 2 1 | 0 0 4 1";
        String kept = "2 at 1 flushes 0 | 1 1 10 2 | 0 0 6 2";
        learned("c = t1, n - c = t2", limited(2, 8, 6, 2), "000", cloned);
        learned("c = t1 + 1", limited(2, 8, 5, 2), "000", cloned);
        learned("c = t1 - 1", limited(2, 8, 7, 2), "000", kept);
        learned("n - c = t2 - 1", limited(2, 8, 6, 3), "000", kept);
        learned("both too small", limited(2, 8, 7, 3), "000", kept);
        // one state, 011: c = 6, n = 12
        learned("n - c = 6 = t2", limited(1, 8, 6, 6), "011", "2 at 1 flushes 0 | 0 1 3 7 | 0 0 3 3");
        learned("n - c = 6 = t2 + 1", limited(1, 8, 6, 5), "011", "2 at 1 flushes 0 | 0 1 3 7 | 0 0 3 3");
        learned("n - c = 6 = t2 - 1", limited(1, 8, 6, 7), "011", "1 at 0 flushes 0 | 0 0 6 10");
    }

    private static void negativeDifference() {
        // the last bit meets c = 8, n = 7
        learned("n - c = -1", limited(1, 32, 8, 2), "0000", "2 at 0 flushes 0 | 1 0 6 1 | 0 0 12 1");
        // c = 17, n = 11: -6 is not 6
        learned("n - c = -6, t2 = 3", limited(1, 8, 3, 3), "00000100", "2 at 0 flushes 0 | 1 0 9 2 | 0 0 21 4");
        learned("n - c = 0", limited(2, 8, 2, 2), "011", "3 at 1 flushes 0 | 2 1 6 6 | 0 0 1 1 | 0 0 1 5");
        learned("n - c = 1", limited(1, 9, 2, 2), "000", "2 at 1 flushes 0 | 1 0 9 1 | 0 0 5 1");
    }

    private static void flushAtTheLimit() {
        learned("8 of 8 states, the condition does not hold", limited(1, 8, 4, 4), "0101010101010" + "10",
            "8 at 7 flushes 0" + SIX + " | 7 0 12 1 | 0 6 1 7");
        // c = 7, n = 13: n - c = 6 >= 4
        learned("8 of 8 states, the condition holds", limited(1, 8, 4, 4), "0101010101010" + "101",
            "1 at 0 flushes 1 | 0 0 2 2");
        learned("8 of 9 states: a clone", limited(1, 9, 4, 4), "0101010101010" + "101",
            "9 at 8 flushes 0" + SIX + " | 7 0 6 1 | 0 8 1 11 | 7 0 6 1");
        learned("width 2", limited(2, 8, 2, 2), "1".repeat(10),
            "8 at 7 flushes 0 | 1 2 2 6 | 0 0 1 1 | 0 3 1 6 | 1 4 1 6 | 0 5 1 6 | 1 6 1 6 | 0 7 1 9 | 1 6 1 4");
        learned("width 2, one bit more", limited(2, 8, 2, 2), "1".repeat(11),
            "2 at 0 flushes 1 | 1 1 2 2 | 0 0 2 2");
        for (int maxStates = 8; maxStates <= 32; maxStates++) {
            flushFromExactly(maxStates);
        }
    }

    private static void flushFromExactly(int maxStates) {
        MarkovCloner x = limited(1, maxStates, 2, 2);
        int before = 0;
        int bits = 7;
        for (int i = 0; i < 80 && x.flushes(W) == 0; i++) {
            bits = bits * 69069 + 1;
            before = x.states(W);
            x.put(bits >>> 31, 1);
            Check.due("never more than " + maxStates + " states", x.states(W) <= maxStates, true);
        }
        due("a flush at " + maxStates + " states", x.flushes(W), 1);
        due("states before the flush", before, maxStates);
    }

    private static void flushEndsLearning() {
        // the last bit of each would count and move in the initial shape, if it were learned on
        learned("width 1, bit 0", limited(1, 8, 2, 2), "00000001000", "1 at 0 flushes 1 | 0 0 2 2");
        learned("width 2, bit 1", limited(2, 8, 2, 2), "1".repeat(11), "2 at 0 flushes 1 | 1 1 2 2 | 0 0 2 2");
        learned("width 3, bit 1", limited(3, 8, 2, 2), "110111111",
            "3 at 0 flushes 1 | 1 1 2 2 | 2 2 2 2 | 0 0 2 2");
        learned("width 4, bit 0", limited(4, 8, 2, 2), "10101010",
            "4 at 0 flushes 1 | 1 1 2 2 | 2 2 2 2 | 3 3 2 2 | 0 0 2 2");
        learned("the next bit is learned", limited(1, 8, 4, 4), "01".repeat(8) + "1", "1 at 0 flushes 1 | 0 0 2 6");
        learned("a second flush", limited(1, 8, 4, 4), "01".repeat(16), "1 at 0 flushes 2 | 0 0 2 2");
    }

    private static void cloneTakesTheNextNumber() {
        MarkovCloner x = limited(4, 32, 2, 2);
        int states = 4;
        for (int i = 0; i < 80 && x.flushes(W) == 0; i++) {
            x.put(i / 3 & 1, 1);
            int now = x.states(W);
            Check.due("one state more at most", now == states || now == states + 1 || x.flushes(W) == 1, true);
            if (now == states + 1) {
                due("the clone has the last number and is entered", x.current(W), states);
            }
            states = now;
        }
        learned("the first clone of width 3 is state 3", limited(3, 8, 2, 2), "1",
            "4 at 3 flushes 0 | 1 3 2 6 | 2 2 1 1 | 0 0 2 2 | 2 2 1 1");
    }

    private static void cloneKeepsSuccessors() {
        // state 2 clones state 0, whose successors are 2 and 1
        learned("successors that differ", limited(2, 8, 6, 2), "000000",
            "4 at 3 flushes 0 | 2 1 7 1 | 0 0 2 1 | 3 0 12 1 | 2 1 7 1");
        // the clone of the state itself leads to that state, as it did before, not to the clone
        learned("of the state itself", limited(1, 8, 2, 2), "1", "2 at 1 flushes 0 | 0 1 1 5 | 0 0 1 1");
    }

    private static void sharesAreRoundedDown() {
        // c = 10, n = 16: 10 * 10 / 16 = 6.25 and 6 * 10 / 16 = 3.75
        learned("6.25 and 3.75", limited(1, 8, 10, 6), "0100", "2 at 1 flushes 0 | 1 0 8 3 | 0 0 6 3");
        // c = 6, n = 8: 4.5 and 1.5
        learned("4.5 and 1.5", limited(2, 8, 6, 2), "000", "3 at 2 flushes 0 | 2 1 10 2 | 0 0 2 1 | 0 0 4 1");
        // c = 122, n = 128: 122 * 122 / 128 = 116.28 and 6 * 122 / 128 = 5.72
        learned("116.28 and 5.72", limited(1, 12, 64, 6), "0".repeat(30) + "10",
            "2 at 1 flushes 0 | 1 0 10 1 | 0 0 116 5");
    }

    private static void sharesComeFromTheCountsBefore() {
        // c = 6, n = 12, and the state is its own target: the first share must not change the second
        learned("bit 0", limited(1, 8, 6, 3), "010", "2 at 1 flushes 0 | 1 0 7 3 | 0 0 3 3");
        learned("bit 1", limited(1, 8, 6, 3), "011", "2 at 1 flushes 0 | 0 1 3 7 | 0 0 3 3");
        learned("counts 10 and 6", limited(1, 8, 10, 6), "0100", "2 at 1 flushes 0 | 1 0 8 3 | 0 0 6 3");
    }

    private static void cloneCountsAtLeastOne() {
        // c = 7, n = 13, counts 12 and 1: shares 6 and 0
        learned("a share of 0", limited(2, 8, 6, 2), "0000000",
            "5 at 4 flushes 0 | 2 1 7 1 | 0 0 2 1 | 3 0 6 1 | 4 1 11 1 | 3 0 6 1");
        // c = 2, n = 8, counts 2 and 6: shares 0 (of 0.5) and 1 (of 1.5); then 2 grows to 6
        learned("half a share", limited(1, 8, 2, 4), "10", "2 at 1 flushes 0 | 1 0 6 5 | 0 0 1 1");
    }

    private static void originalCountsAtLeastOne() {
        // counts 2 and 2 less 1 each: the least that a share can leave
        learned("1 is left of 2", limited(2, 8, 2, 2), "0", "3 at 2 flushes 0 | 2 1 6 2 | 0 0 1 1 | 0 0 1 1");
        // c = 2, n = 8, counts 2 and 6: shares 0 and 1; a share of 0 takes nothing, and then 2 grows to 6
        learned("2 is left of 2", limited(1, 8, 2, 4), "10", "2 at 1 flushes 0 | 1 0 6 5 | 0 0 1 1");
        // the third one: c = 4, n = 7, counts 1 and 6: shares 0 and 3; then 4 grows to 8
        learned("1 is left of 1", limited(1, 32, 4, 2), "111", "3 at 2 flushes 0 | 0 1 1 3 | 0 2 1 8 | 0 1 1 3");
    }

    private static void noOtherSuccessorChanges() {
        // both bits of state 0 led to state 1: only bit 0 leads to the clone
        learned("the other bit", limited(2, 8, 2, 2), "0", "3 at 2 flushes 0 | 2 1 6 2 | 0 0 1 1 | 0 0 1 1");
        // states 0 and 4 led to state 3 with bit 1: only that of state 0 leads to the clone
        learned("a later state", limited(3, 8, 2, 2), "1101111",
            "7 at 6 flushes 0 | 1 6 2 9 | 2 2 1 1 | 4 0 3 1 | 2 5 1 5 | 1 3 1 5 | 4 0 3 5 | 2 5 1 4");
        // states 1 and 2 led to state 0: only bit 0 of state 2 leads to the clone
        learned("earlier states", limited(2, 8, 6, 2), "000000",
            "4 at 3 flushes 0 | 2 1 7 1 | 0 0 2 1 | 3 0 12 1 | 2 1 7 1");
    }

    private static void countGrowsAsItIsNow() {
        // the clone takes 3 of 6, and 3 grows to 7; without the clone 6 would grow to 10
        learned("after a clone of the state itself", limited(1, 8, 6, 3), "010",
            "2 at 1 flushes 0 | 1 0 7 3 | 0 0 3 3");
        learned("after a clone of another state", limited(2, 8, 2, 2), "0",
            "3 at 2 flushes 0 | 2 1 6 2 | 0 0 1 1 | 0 0 1 1");
        learned("without a clone", limited(1, 8, 64, 64), "1", "1 at 0 flushes 0 | 0 0 2 6");
    }

    private static void halvingAboveCap() {
        learned("a sum of 128 is left", limited(1, 8, 64, 64), "0".repeat(31), "1 at 0 flushes 0 | 0 0 126 2");
        // 116 + 9 = 125, then 116 + 13 = 129
        String thirtyFour = "0".repeat(30) + "1010";
        learned("a sum of 125 is left", limited(1, 12, 64, 6), thirtyFour, "2 at 1 flushes 0 | 1 0 14 1 | 0 0 116 9");
        learned("a sum of 129 is halved", limited(1, 12, 64, 6), thirtyFour + "1",
            "2 at 0 flushes 0 | 1 0 14 1 | 0 0 58 7");
        learned("a sum of 132, even counts", limited(1, 8, 64, 64), "0".repeat(32), "1 at 0 flushes 0 | 0 0 65 1");
        learned("a sum of 126 is left", limited(1, 8, 64, 64), "0".repeat(32) + "1".repeat(15),
            "1 at 0 flushes 0 | 0 0 65 61");
        learned("a sum of 130, odd counts", limited(1, 8, 64, 64), "0".repeat(32) + "1".repeat(16),
            "1 at 0 flushes 0 | 0 0 33 33");
        learned("a count of 1 stays 1", limited(1, 9, 3, 64), "1".repeat(48), "1 at 0 flushes 0 | 0 0 1 65");
    }

    private static void halvingAfterAClone() {
        // 123 and 5: bit 1 clones state 1 and makes the sum 132
        learned("of another state", limited(1, 9, 3, 6), "01111" + "0".repeat(31) + "1",
            "4 at 3 flushes 0 | 0 3 62 5 | 0 2 5 5 | 0 1 1 6 | 0 2 2 2");
        // 2 and 126: the clone takes 0 and 1, then 6 and 125 have the sum 131
        learned("of the state itself", limited(1, 32, 2, 16), "1".repeat(31) + "0",
            "2 at 1 flushes 0 | 1 0 3 63 | 0 0 1 1");
        // 122 and 2: the clone takes 1 and 0, then 121 and 6 have the sum 127
        learned("the sum is taken after the clone", limited(1, 8, 2, 32), "0".repeat(30) + "1",
            "2 at 1 flushes 0 | 0 1 121 6 | 0 0 1 1");
    }

    private static void moveToTheClone() {
        learned("a clone is entered", limited(2, 8, 2, 2), "0", "3 at 2 flushes 0 | 2 1 6 2 | 0 0 1 1 | 0 0 1 1");
        learned("a clone of the state itself is entered", limited(1, 8, 2, 2), "0",
            "2 at 1 flushes 0 | 1 0 5 1 | 0 0 1 1");
        learned("without a clone the successor is", limited(2, 8, 64, 64), "0",
            "2 at 1 flushes 0 | 1 1 6 2 | 0 0 2 2");
    }

    private static void straightToCountingAndMoving() {
        learned("bit 1", limited(2, 8, 64, 64), "1", "2 at 1 flushes 0 | 1 1 2 6 | 0 0 2 2");
        learned("bits 10", limited(2, 8, 64, 64), "10", "2 at 0 flushes 0 | 1 1 2 6 | 0 0 6 2");
        learned("bits 100", limited(2, 8, 64, 64), "100", "2 at 1 flushes 0 | 1 1 6 6 | 0 0 6 2");
    }

    private static void flushConcernsTheAutomatonOnly() {
        // the 11th bit brings about the flush, whether it stands in the midst or at the end of the message
        for (int length = 11; length <= 16; length++) {
            MarkovCloner x = limited(2, 8, 2, 2);
            int ones = (1 << length) - 1;
            due("put of one piece", x.put(ones, length), OK);
            due("a flush while writing", x.flushes(W), 1);
            due("its bit counts as written", x.position(W), length);
            due("seal", x.seal(0), OK);
            due("its bit belongs to the message", x.lengthOf(0), length);
            due("open", x.open(0), OK);
            due("take of one piece", x.take(length), ones);
            due("a flush while reading", x.flushes(R), 1);
            due("its bit counts as decoded", x.position(R), length);
            due("nothing is left", x.take(1), SHORT);
            due("recode", x.recode(0), OK);
            due("it counts as written again", x.position(W), length);
            due("a flush while recoding", x.flushes(W), 1);
        }
        flushOnTheEightiethBit();
    }

    private static void flushOnTheEightiethBit() {
        MarkovCloner x = limited(4, 8, 2, 2);
        Check.putAll(x, "10".repeat(40));
        String tenFlushes = "4 at 0 flushes 10 | 1 1 2 2 | 2 2 2 2 | 3 3 2 2 | 0 0 2 2";
        Check.due("every eighth bit flushes", Check.automaton(x, W), tenFlushes);
        due("full", x.put(1, 1), FULL);
        due("seal", x.seal(2), OK);
        due("all bits belong to the message", x.lengthOf(2), 80);
        Check.keeps("80 bits", x, 2, "10".repeat(40));
        Check.due("while reading", Check.automaton(x, R), tenFlushes);
    }

    public static void main(String[] args) {
        Check.part("The automaton");
        Check.sentence("There is one automaton for the writer and one for the reader, independent of each other.",
            AutomatonTest::sidesAreIndependent);
        Check.sentence("An automaton has states 0 .. states-1, a current state, and for every state s and bit b (0 or"
            + " 1) a successor next(s,b) and a whole count count(s,b) >= 1.", AutomatonTest::statesAndCountsInRange);
        Check.sentence("states = width, current = 0, and for every state s < width and each bit b,"
            + " next(s,b) = (s+1) mod width and count(s,b) = `START`.", AutomatonTest::initialShape);
        Check.sentence("the initial shape with flush counter 0.", AutomatonTest::freshAutomaton);
        Check.sentence("Here t may be s itself.", AutomatonTest::targetMayBeTheStateItself);
        Check.sentence("If c >= t1 and n - c >= t2", AutomatonTest::thresholds);
        Check.sentence("(n - c may be negative; then this does not hold)", AutomatonTest::negativeDifference);
        Check.sentence("If states == maxStates: **flush**.", AutomatonTest::flushAtTheLimit);
        Check.sentence("The automaton takes the initial shape (so current = 0), the flush counter grows by 1, and"
            + " learning of this bit ends here: the bit b is not counted and makes no move. Steps 3 and 4 are left"
            + " out.",
            AutomatonTest::flushEndsLearning);
        Check.sentence("Let u = states; then states grows by 1.", AutomatonTest::cloneTakesTheNextNumber);
        Check.sentence("next(u,0) = next(t,0) and next(u,1) = next(t,1), both as they were before this step.",
            AutomatonTest::cloneKeepsSuccessors);
        Check.sentence("q = count(t,x) * c / n, rounded down", AutomatonTest::sharesAreRoundedDown);
        Check.sentence("with c, n and count(t,x) as they were before this step",
            AutomatonTest::sharesComeFromTheCountsBefore);
        Check.sentence("count(u,x) becomes the greater of 1 and q", AutomatonTest::cloneCountsAtLeastOne);
        Check.sentence("count(t,x) becomes the greater of 1 and count(t,x) - q.",
            AutomatonTest::originalCountsAtLeastOne);
        Check.sentence("After that next(s,b) = u. No other successor changes.",
            AutomatonTest::noOtherSuccessorChanges);
        Check.sentence("count(s,b), as it is now (a clone with t = s has changed it), grows by `USE`.",
            AutomatonTest::countGrowsAsItIsNow);
        Check.sentence("If then count(s,0) + count(s,1) > `CAP`, each of the two counts v of s becomes (v + 1) / 2,"
            + " rounded down.", AutomatonTest::halvingAboveCap);
        Check.sentence("If then count(s,0) + count(s,1) > `CAP`", AutomatonTest::halvingAfterAClone);
        Check.sentence("current = next(s,b), as it is now (u, if a clone was made).", AutomatonTest::moveToTheClone);
        Check.sentence("If the condition of step 2 does not hold, learning goes from step 1 straight to steps 3 and 4.",
            AutomatonTest::straightToCountingAndMoving);
        Check.sentence("A flush concerns the automaton only: the bit that brought it about still belongs to the"
            + " message, and still counts as written or decoded.", AutomatonTest::flushConcernsTheAutomatonOnly);
        Check.finish();
    }
}
