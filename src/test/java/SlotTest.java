/** The sentences of promises 8, 9 and 10: drop, compare and lengthOf. */
public final class SlotTest extends Scenes {
    private static final int EQUAL = MarkovCloner.EQUAL;
    private static final int LESS = MarkovCloner.LESS;
    private static final int GREATER = MarkovCloner.GREATER;

    private static MarkovCloner holding(String first, String second) {
        MarkovCloner x = archive();
        Check.store(x, 0, first);
        Check.store(x, 2, second);
        return x;
    }

    // Promise 8: drop

    private static void dropOfAWrongSlot() {
        for (int slot : WRONG_SLOTS) {
            everySceneRefuses("drop(" + slot + ")", x -> x.drop(slot), BAD);
        }
        for (int slot = 0; slot < 3; slot++) {
            due("drop(" + slot + ")", allFull().drop(slot), OK);
        }
    }

    private static void dropOfAFreeSlot() {
        for (int slot = 0; slot < 3; slot++) {
            int free = slot;
            everySceneRefuses("drop(" + free + ")", x -> x.lengthOf(free) == 0, x -> x.drop(free), NONE);
            MarkovCloner x = allFull();
            due("drop", x.drop(slot), OK);
            due("drop again", x.drop(slot), NONE);
        }
    }

    private static void dropFreesTheSlot() {
        for (int slot = 0; slot < 3; slot++) {
            MarkovCloner x = allFull();
            due("drop", x.drop(slot), OK);
            due("lengthOf", x.lengthOf(slot), 0);
            due("open", x.open(slot), NONE);
            due("recode", x.recode(slot), NONE);
            due("compare", x.compare(slot, slot), NONE);
            due("used again", x.seal(slot), OK);
            Check.keeps("used again", x, slot, FULL_LENGTH);
        }
        for (String first : EDGE_MESSAGES) {
            for (String second : EDGE_MESSAGES) {
                MarkovCloner x = archive();
                Check.store(x, 1, first);
                due("drop of " + first, x.drop(1), OK);
                due("free", x.lengthOf(1), 0);
                Check.store(x, 1, second);
                Check.keeps("after " + first, x, 1, second);
            }
        }
    }

    private static void dropClosesItsReader() {
        for (int decoded : new int[] {0, 1, 30, 40}) {
            MarkovCloner x = holding(ALTERNATING, "11");
            due("open", x.open(0), OK);
            for (int i = 0; i < decoded; i++) {
                due("bit", x.take(1), i & 1);
            }
            due("drop after " + decoded + " bits", x.drop(0), OK);
            Check.due("closed", Check.reader(x), CLOSED_READER);
            due("take", x.take(1), NONE);
            Check.keeps("the other slot can be opened", x, 2, "11");
        }
    }

    private static void dropLeavesAnotherReader() {
        MarkovCloner closed = holding("1", "01");
        due("drop with a closed reader", closed.drop(0), OK);
        Check.due("closed", Check.reader(closed), CLOSED_READER);
        MarkovCloner x = midst();
        String before = Check.reader(x);
        due("drop of another slot", x.drop(2), OK);
        Check.due("the reader", Check.reader(x), before);
        Check.due("its rest", Check.takeAll(x), "011110000101");
        MarkovCloner end = allFull();
        before = Check.reader(end);
        due("drop(0)", end.drop(0), OK);
        due("drop(2)", end.drop(2), OK);
        Check.due("the reader at the end", Check.reader(end), before);
        due("still at the end", end.take(1), SHORT);
    }

    private static void dropLeavesWriterAndOtherSlots() {
        for (int slot = 0; slot < 3; slot++) {
            int dropped = slot;
            leavesSlots("drop(" + dropped + ")", dropped, x -> x.drop(dropped));
            leavesWriter("drop(" + dropped + ")", x -> x.drop(dropped));
        }
    }

    // Promise 9: compare

    private static void compareOfAWrongSlot() {
        for (int wrong : WRONG_SLOTS) {
            for (int slot = 0; slot < 3; slot++) {
                // free in some scenes, held in others
                int other = slot;
                everySceneRefuses("compare(" + wrong + ", " + other + ")", x -> x.compare(wrong, other), BAD);
                everySceneRefuses("compare(" + other + ", " + wrong + ")", x -> x.compare(other, wrong), BAD);
            }
            for (int second : WRONG_SLOTS) {
                everySceneRefuses("compare(" + wrong + ", " + second + ")", x -> x.compare(wrong, second), BAD);
            }
        }
    }

    private static void compareOfAFreeSlot() {
        for (int i = 0; i < 9; i++) {
            int a = i / 3;
            int b = i % 3;
            everySceneRefuses("compare(" + a + ", " + b + ")", x -> x.lengthOf(a) == 0 || x.lengthOf(b) == 0,
                x -> x.compare(a, b), NONE);
        }
        MarkovCloner x = allFull();
        due("drop(2)", x.drop(2), OK);
        due("a freed slot", x.compare(2, 2), NONE);
        due("a freed slot and another", x.compare(2, 1), NONE);
        due("another and a freed slot", x.compare(1, 2), NONE);
    }

    private static void order(String a, String b, int want) {
        due(a + " with " + b, holding(a, b).compare(0, 2), want);
        for (String[] before : new String[][] {{ONES, ZEROS}, {ZEROS, ONES}, {FULL_LENGTH, ONES}}) {
            MarkovCloner x = comparedBefore(before[0], before[1]);
            Check.store(x, 0, a);
            Check.store(x, 2, b);
            due(a + " with " + b + ", other ones before", x.compare(0, 2), want);
            due(a + " with " + b + ", once more", x.compare(0, 2), want);
        }
    }

    /** The longest messages have been compared and recoded: whatever is left of them may decide nothing. */
    private static MarkovCloner comparedBefore(String first, String second) {
        MarkovCloner x = holding(first, second);
        due("recode", x.recode(2), OK);
        x.discard();
        Check.due("compare", x.compare(0, 2) > 0, true);
        due("drop", x.drop(0), OK);
        due("drop", x.drop(2), OK);
        return x;
    }

    private static void sameLengthAndBits() {
        for (int length : new int[] {1, 2, 16, 40, 79, 80}) {
            String bits = FULL_LENGTH.substring(0, length);
            order(bits, bits, EQUAL);
            MarkovCloner x = holding(bits, "1");
            due("a == b, " + length + " bits", x.compare(0, 0), EQUAL);
            due("recode", x.recode(0), OK);
            due("seal", x.seal(1), OK);
            due("recoded, " + length + " bits", x.compare(0, 1), EQUAL);
            due("recoded, " + length + " bits", x.compare(1, 0), EQUAL);
        }
        order("0", "0", EQUAL);
        order("0".repeat(80), "0".repeat(80), EQUAL);
        order("1".repeat(80), "1".repeat(80), EQUAL);
        for (int slot = 0; slot < 3; slot++) {
            due("a == b", allFull().compare(slot, slot), EQUAL);
        }
    }

    private static void firstDifferenceDecides() {
        order("0", "1", LESS);
        order("1", "0", GREATER);
        // the first difference decides against the later ones, and against the length
        order("0111", "1000", LESS);
        order("1000", "0111", GREATER);
        order("01111", "1", LESS);
        order("1", "01111", GREATER);
        order("0010", "01", LESS);
        order("01", "0010", GREATER);
        for (int at = 0; at < 80; at++) {
            String zero = FULL_LENGTH.substring(0, at) + "0" + "1".repeat(79 - at);
            String one = FULL_LENGTH.substring(0, at) + "1" + "0".repeat(79 - at);
            order(zero, one, LESS);
            order(one, zero, GREATER);
            // the last index that both have
            order(zero, one.substring(0, at + 1), LESS);
            order(one.substring(0, at + 1), zero, GREATER);
            order(one, zero.substring(0, at + 1), GREATER);
            order(zero.substring(0, at + 1), one, LESS);
        }
    }

    private static void shorterIsLess() {
        for (int length = 1; length < 80; length++) {
            String part = FULL_LENGTH.substring(0, length);
            order(part, FULL_LENGTH.substring(0, length + 1), LESS);
            order(FULL_LENGTH.substring(0, length + 1), part, GREATER);
            order(part, FULL_LENGTH, LESS);
            order(FULL_LENGTH, part, GREATER);
        }
        order("0", "00", LESS);
        order("00", "0", GREATER);
        order("1", "10", LESS);
        order("10", "1", GREATER);
        order("0".repeat(79), "0".repeat(80), LESS);
        order("1".repeat(80), "1".repeat(79), GREATER);
    }

    // Promise 10: lengthOf

    private static void lengthOfAWrongSlot() {
        for (int slot : WRONG_SLOTS) {
            everySceneRefuses("lengthOf(" + slot + ")", x -> x.lengthOf(slot), BAD);
        }
    }

    private static void lengthOfAFreeSlot() {
        due("free beside held ones", midst().lengthOf(1), 0);
        for (int slot = 0; slot < 3; slot++) {
            due("new", archive().lengthOf(slot), 0);
            MarkovCloner x = allFull();
            due("drop", x.drop(slot), OK);
            due("freed", x.lengthOf(slot), 0);
        }
    }

    private static void lengthOfAMessage() {
        for (int slot = 0; slot < 3; slot++) {
            for (int length = 1; length <= 80; length++) {
                MarkovCloner x = archive();
                Check.store(x, slot, FULL_LENGTH.substring(0, length));
                due("lengthOf(" + slot + ")", x.lengthOf(slot), length);
            }
        }
        due("the slot the reader is open on", midst().lengthOf(0), 19);
        due("another slot", midst().lengthOf(2), 5);
    }

    public static void main(String[] args) {
        Check.part("Promise 8: drop");
        Check.sentence("slot < 0 or slot >= `SLOTS`: `BAD`.", SlotTest::dropOfAWrongSlot);
        Check.sentence("The slot is free: `NONE`.", SlotTest::dropOfAFreeSlot);
        Check.sentence("Otherwise the slot becomes free", SlotTest::dropFreesTheSlot);
        Check.sentence("if the reader is open on it the reader becomes closed (position 0, fresh automaton); `OK`.",
            SlotTest::dropClosesItsReader);
        Check.sentence("A reader that is closed or open on another slot does not change.",
            SlotTest::dropLeavesAnotherReader);
        Check.sentence("The writer and the other slots do not change.", SlotTest::dropLeavesWriterAndOtherSlots);

        Check.part("Promise 9: compare");
        Check.sentence("a or b is < 0 or >= `SLOTS`: `BAD`.", SlotTest::compareOfAWrongSlot);
        Check.sentence("Slot a or slot b is free: `NONE` (also when a == b).", SlotTest::compareOfAFreeSlot);
        Check.sentence("Same length and same bits: `EQUAL`; so always when a == b and the slot holds a message.",
            SlotTest::sameLengthAndBits);
        Check.sentence("Otherwise, at the first index where both messages have a bit and these differ: `LESS` if a has"
            + " 0 there, `GREATER` if a has 1 there.", SlotTest::firstDifferenceDecides);
        Check.sentence("If there is no such index, the shorter message is the lesser: `LESS` if a's message is"
            + " shorter, `GREATER` if b's message is shorter.", SlotTest::shorterIsLess);

        Check.part("Promise 10: lengthOf");
        Check.sentence("slot < 0 or slot >= `SLOTS`: `BAD`.", SlotTest::lengthOfAWrongSlot);
        Check.sentence("The slot is free: 0.", SlotTest::lengthOfAFreeSlot);
        Check.sentence("Otherwise the length of its message in bits (1 to `MAX_BITS`).", SlotTest::lengthOfAMessage);
        Check.finish();
    }
}
