/** The sentences of promises 5 and 6: open and take. */
public final class ReaderTest extends Scenes {
    private static MarkovCloner opened(String bits) {
        MarkovCloner x = archive();
        Check.store(x, 0, bits);
        due("open(0)", x.open(0), OK);
        return x;
    }

    // Promise 5: open

    private static void openOfAWrongSlot() {
        for (int slot : WRONG_SLOTS) {
            everySceneRefuses("open(" + slot + ")", x -> x.open(slot), BAD);
        }
        for (int slot = 0; slot < 3; slot++) {
            MarkovCloner x = archive();
            Check.store(x, slot, "1");
            due("open(" + slot + ")", x.open(slot), OK);
        }
    }

    private static void openOfAFreeSlot() {
        for (int slot = 0; slot < 3; slot++) {
            int free = slot;
            everySceneRefuses("open(" + free + ")", x -> x.lengthOf(free) == 0, x -> x.open(free), NONE);
        }
        MarkovCloner x = midst();
        due("drop", x.drop(2), OK);
        due("a freed slot", x.open(2), NONE);
        due("open on the other still", x.readerSlot(), 0);
    }

    private static void openFromAnyState() {
        String onSlot1 = CLOSED_READER.replace("slot -4", "slot 1");
        MarkovCloner x = archive();
        Check.store(x, 1, ALTERNATING);
        Check.store(x, 2, "110");
        due("closed before", x.open(1), OK);
        Check.due("closed before", Check.reader(x), onSlot1);
        due("at position 0 of this one before", x.open(1), OK);
        Check.due("at position 0 of this one before", Check.reader(x), onSlot1);
        due("first bits", x.take(5), 0b01010);
        due("in the midst of this one before", x.open(1), OK);
        Check.due("in the midst of this one before", Check.reader(x), onSlot1);
        Check.due("all bits", Check.takeAll(x), ALTERNATING);
        Check.due("flushed", x.flushes(R) > 0, true);
        due("at the end of this one before", x.open(1), OK);
        Check.due("at the end of this one before", Check.reader(x), onSlot1);
        due("first bits again", x.take(16), 0b0101010101010101);
        due("another slot", x.open(2), OK);
        Check.due("another slot", Check.reader(x), CLOSED_READER.replace("slot -4", "slot 2"));
        due("its bits", x.take(3), 0b110);
        due("on another before, at its end", x.open(1), OK);
        Check.due("on another before, at its end", Check.reader(x), onSlot1);
        Check.due("its bits", Check.takeAll(x), ALTERNATING);
    }

    private static void openLeavesWriterAndSlots() {
        for (int slot = 0; slot < 3; slot++) {
            int opened = slot;
            leavesWriter("open(" + opened + ")", x -> x.open(opened));
            leavesSlots("open(" + opened + ")", x -> x.open(opened));
        }
    }

    private static void refusedOpenLeavesTheReader() {
        for (int slot : WRONG_SLOTS) {
            leavesReader("open(" + slot + ")", x -> due("open", x.open(slot), BAD));
        }
        MarkovCloner x = midst();
        String before = Check.reader(x);
        due("open of a free slot", x.open(1), NONE);
        Check.due("the reader", Check.reader(x), before);
        Check.due("its rest", Check.takeAll(x), "011110000101");
        MarkovCloner end = opened("1011");
        due("to the end", end.take(4), 0b1011);
        before = Check.reader(end);
        due("open of a free slot", end.open(1), NONE);
        Check.due("the reader at the end", Check.reader(end), before);
    }

    // Promise 6: take

    private static void takeOfAWrongPiece() {
        for (int n : WRONG_PIECES) {
            everySceneRefuses("take(" + n + ")", x -> x.take(n), BAD);
        }
        due("n = 1", opened(FULL_LENGTH).take(1), 0);
        due("n = 16", opened(FULL_LENGTH).take(16), 0b0110100111010001);
    }

    private static void takeWhileClosed() {
        for (int n = 1; n <= 16; n++) {
            int piece = n;
            everySceneRefuses("take(" + piece + ")", x -> x.readerSlot() == NONE, x -> x.take(piece), NONE);
            MarkovCloner x = opened("10110");
            due("bits", x.take(2), 0b10);
            due("drop", x.drop(0), OK);
            due("closed by drop", x.take(n), NONE);
            Check.store(x, 0, FULL_LENGTH);
            due("a new message is not opened", x.take(n), NONE);
            Check.due("still closed", Check.reader(x), CLOSED_READER);
        }
    }

    private static void takeBeyondTheEnd() {
        for (int length : new int[] {1, 2, 15, 16, 17, 40, 79, 80}) {
            String bits = FULL_LENGTH.substring(0, length);
            for (int position = 0; position <= length; position++) {
                for (int n = 1; n <= 16; n++) {
                    MarkovCloner x = opened(bits);
                    for (int i = 0; i < position; i++) {
                        due("bit " + i, x.take(1), bits.charAt(i) - '0');
                    }
                    takeAt(x, bits, position, n);
                }
            }
        }
        for (int n = 1; n <= 16; n++) {
            int piece = n;
            everySceneRefuses("take(" + piece + ")",
                x -> x.readerSlot() >= 0 && x.position(R) + piece > x.lengthOf(x.readerSlot()),
                x -> x.take(piece), SHORT);
        }
    }

    private static void takeAt(MarkovCloner x, String bits, int position, int n) {
        String before = Check.reader(x);
        String what = "take(" + n + ") at " + position + " of " + bits.length();
        if (position + n > bits.length()) {
            due(what, x.take(n), SHORT);
            Check.due(what + ": no bit is decoded", Check.reader(x), before);
            Check.due(what + ": the rest", Check.takeAll(x), bits.substring(position));
        } else {
            due(what, x.take(n), Integer.parseInt(bits.substring(position, position + n), 2));
            due(what + ": position", x.position(R), position + n);
            Check.due(what + ": the rest", Check.takeAll(x), bits.substring(position + n));
        }
    }

    private static void bitsAreLearnedInTurn() {
        MarkovCloner piece = opened(FULL_LENGTH);
        MarkovCloner single = opened(FULL_LENGTH);
        MarkovCloner writer = archive();
        for (int i = 0; i < 80; i += 16) {
            String bits = FULL_LENGTH.substring(i, i + 16);
            due("16 bits at once", piece.take(16), Integer.parseInt(bits, 2));
            for (int k = 0; k < 16; k++) {
                due("one bit", single.take(1), bits.charAt(k) - '0');
            }
            Check.putAll(writer, bits);
            Check.due("one by one", Check.reader(single), Check.reader(piece));
            Check.due("as by the writer", Check.automaton(piece, R), Check.automaton(writer, W));
            due("position", piece.position(R), i + 16);
        }
    }

    private static void answersUpTo65535() {
        MarkovCloner x = opened("1".repeat(16) + "0".repeat(16) + "1" + "0".repeat(15) + "0".repeat(15) + "1");
        due("16 ones", x.take(16), 65535);
        due("16 zeros", x.take(16), 0);
        due("the first bit is the highest", x.take(16), 32768);
        due("the last bit is the lowest", x.take(16), 1);
        for (int n = 1; n <= 16; n++) {
            due(n + " ones", opened("1".repeat(n)).take(n), (1 << n) - 1);
            due(n + " zeros", opened("0".repeat(n)).take(n), 0);
            due("1 and zeros, " + n, opened("1" + "0".repeat(n - 1)).take(n), 1 << (n - 1));
        }
    }

    private static void openAtTheEnd() {
        for (int length : new int[] {1, 16, 80}) {
            String bits = FULL_LENGTH.substring(0, length);
            MarkovCloner x = opened(bits);
            Check.due("all bits", Check.takeAll(x), bits);
            String end = Check.all(x);
            for (int n = 1; n <= 16; n++) {
                due("take(" + n + ") at the end of " + length, x.take(n), SHORT);
            }
            due("still open", x.readerSlot(), 0);
            due("position", x.position(R), length);
            Check.due("nothing changed", Check.all(x), end);
        }
    }

    private static void takeLeavesWriterAndSlots() {
        for (int n : new int[] {1, 5, 16}) {
            leavesWriter("take(" + n + ")", x -> x.take(n));
            leavesSlots("take(" + n + ")", x -> x.take(n));
        }
    }

    public static void main(String[] args) {
        Check.part("Promise 5: open");
        Check.sentence("slot < 0 or slot >= `SLOTS`: `BAD`.", ReaderTest::openOfAWrongSlot);
        Check.sentence("The slot is free: `NONE`.", ReaderTest::openOfAFreeSlot);
        Check.sentence("Otherwise the reader, whether it was closed or open on any slot (this one included), is now"
            + " open on this slot with position 0 and a fresh automaton; `OK`.", ReaderTest::openFromAnyState);
        Check.sentence("The writer and the slots do not change.", ReaderTest::openLeavesWriterAndSlots);
        Check.sentence("After `BAD` or `NONE` the reader, too, stays exactly as it was.",
            ReaderTest::refusedOpenLeavesTheReader);

        Check.part("Promise 6: take");
        Check.sentence("n < 1 or n > `MAX_PIECE`: `BAD`.", ReaderTest::takeOfAWrongPiece);
        Check.sentence("The reader is closed: `NONE`.", ReaderTest::takeWhileClosed);
        Check.sentence("Position + n > length of the message the reader is open on: `SHORT`; no bit is decoded.",
            ReaderTest::takeBeyondTheEnd);
        Check.sentence("Otherwise the bits of that message from index position to index position + n - 1 are learned"
            + " in turn by the reader's automaton, position grows by n", ReaderTest::bitsAreLearnedInTurn);
        Check.sentence("the answer is these bits as a number 0 .. 65535, the first bit being the highest of n binary"
            + " digits.", ReaderTest::answersUpTo65535);
        Check.sentence("The reader stays open at the end of the message; there every n from 1 to `MAX_PIECE` gives"
            + " `SHORT`.", ReaderTest::openAtTheEnd);
        Check.sentence("The writer and the slots do not change.", ReaderTest::takeLeavesWriterAndSlots);
        Check.finish();
    }
}
