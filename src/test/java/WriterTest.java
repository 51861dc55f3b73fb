/** The sentences of promises 2, 3, 4 and 7: put, seal, discard and recode. */
public final class WriterTest extends Scenes {
    private static MarkovCloner written(int length) {
        MarkovCloner x = archive();
        Check.putAll(x, FULL_LENGTH.substring(0, length));
        return x;
    }

    // Promise 2: put

    private static void highestOfTheLowestBitsFirst() {
        MarkovCloner x = archive();
        due("put(0b0110, 4)", x.put(0b0110, 4), OK);
        due("put(0b001, 3)", x.put(0b001, 3), OK);
        due("put of the least piece", x.put(1, 1), OK);
        due("put of the greatest piece", x.put(0b1000000000000010, 16), OK);
        due("position", x.position(W), 24);
        due("seal", x.seal(0), OK);
        Check.keeps("put", x, 0, "0110" + "001" + "1" + "1000000000000010");
    }

    private static void otherBitsOfValueAreIgnored() {
        int[] values = {MIN, MIN + 1, -1, -2, -65536, -65535, 0, 1, 0xFFFF, 0x10000, 0x10001, 0x1FFFF, 0xABCD1234, MAX};
        for (int value : values) {
            for (int n = 1; n <= 16; n++) {
                MarkovCloner x = archive();
                MarkovCloner low = archive();
                int lowest = value & ((1 << n) - 1);
                due("put(" + value + ", " + n + ")", x.put(value, n), OK);
                due("put of its lowest bits", low.put(lowest, n), OK);
                Check.due("learned alike", Check.writer(x), Check.writer(low));
                due("seal", x.seal(0), OK);
                due("open", x.open(0), OK);
                due("put(" + value + ", " + n + ") read back", x.take(n), lowest);
            }
        }
    }

    private static void putOfAWrongPiece() {
        for (int n : WRONG_PIECES) {
            everySceneRefuses("put(5, " + n + ")", x -> x.put(5, n), BAD);
        }
        due("n = 1", archive().put(0, 1), OK);
        due("n = 16", archive().put(0, 16), OK);
    }

    private static void putBeyondMaxBits() {
        for (int length = 0; length <= 80; length++) {
            for (int n = 1; n <= 16; n++) {
                MarkovCloner x = written(length);
                String before = Check.writer(x);
                boolean room = length + n <= 80;
                due("put of " + n + " to " + length, x.put(0x2D2D, n), room ? OK : FULL);
                due("length", x.position(W), room ? length + n : length);
                if (!room) {
                    Check.due("no bit is learned", Check.writer(x), before);
                    due("seal", x.seal(0), OK);
                    Check.keeps("no bit is written", x, 0, FULL_LENGTH.substring(0, length));
                }
            }
        }
        everySceneRefuses("put(0, 1)", x -> x.position(W) == 80, x -> x.put(0, 1), FULL);
        everySceneRefuses("put(-1, 16)", x -> x.position(W) > 64, x -> x.put(-1, 16), FULL);
    }

    private static void eachBitInTurn() {
        MarkovCloner piece = archive();
        MarkovCloner single = archive();
        for (int i = 0; i < 80; i += 16) {
            due("one piece", piece.put(Integer.parseInt(FULL_LENGTH.substring(i, i + 16), 2), 16), OK);
            Check.putAll(single, FULL_LENGTH.substring(i, i + 16));
            Check.due("learned bit by bit, a flush in the midst of a piece too",
                Check.writer(piece), Check.writer(single));
        }
        due("seal", piece.seal(0), OK);
        Check.keeps("appended bit by bit", piece, 0, FULL_LENGTH);
    }

    private static void exactlyMaxBitsByPut() {
        for (int n = 1; n <= 16; n++) {
            MarkovCloner x = written(80 - n);
            due("put of the last " + n, x.put(Integer.parseInt(FULL_LENGTH.substring(80 - n), 2), n), OK);
            due("length", x.position(W), 80);
            due("seal of 80 bits", x.seal(1), OK);
            due("lengthOf", x.lengthOf(1), 80);
            Check.keeps("80 bits", x, 1, FULL_LENGTH);
        }
    }

    private static void putLeavesSlotsAndReader() {
        leavesReader("put", x -> x.put(0x1B3D, 13));
        leavesSlots("put", x -> x.put(0x1B3D, 13));
    }

    // Promise 3: seal

    private static void sealOfAWrongSlot() {
        for (int slot : WRONG_SLOTS) {
            everySceneRefuses("seal(" + slot + ")", x -> x.seal(slot), BAD);
        }
        for (int slot = 0; slot < 3; slot++) {
            due("seal(" + slot + ")", written(1).seal(slot), OK);
        }
    }

    private static void sealOfAHeldSlot() {
        for (int slot = 0; slot < 3; slot++) {
            int held = slot;
            everySceneRefuses("seal(" + held + ")", x -> x.lengthOf(held) > 0, x -> x.seal(held), BUSY);
        }
        for (String held : EDGE_MESSAGES) {
            MarkovCloner x = archive();
            Check.store(x, 0, held);
            due("a held slot, nothing written", x.seal(0), BUSY);
            due("put", x.put(0b101, 3), OK);
            due("a held slot", x.seal(0), BUSY);
            Check.keeps("it is kept", x, 0, held);
            due("drop", x.drop(0), OK);
            due("a freed slot", x.seal(0), OK);
            Check.keeps("a freed slot can be used", x, 0, "101");
        }
    }

    private static void sealOfNothing() {
        for (int slot = 0; slot < 3; slot++) {
            int free = slot;
            everySceneRefuses("seal(" + free + ")", x -> x.lengthOf(free) == 0 && x.position(W) == 0,
                x -> x.seal(free), NONE);
        }
        MarkovCloner x = written(1);
        x.discard();
        due("after discard", x.seal(0), NONE);
        due("one bit", x.put(0, 1), OK);
        due("seal of one bit", x.seal(0), OK);
        due("after seal", x.seal(1), NONE);
        due("the slot stays free", x.lengthOf(1), 0);
    }

    private static void sealStoresAndMakesTheWriterFresh() {
        for (int length : new int[] {1, 2, 7, 8, 9, 16, 40, 79, 80}) {
            MarkovCloner x = written(length);
            due("seal of " + length, x.seal(2), OK);
            due("lengthOf", x.lengthOf(2), length);
            Check.due("the writer", Check.writer(x), FRESH_WRITER);
            Check.store(x, 0, "10");
            Check.keeps("sealed", x, 2, FULL_LENGTH.substring(0, length));
            Check.keeps("the next message starts anew", x, 0, "10");
        }
        MarkovCloner x = flushed();
        due("after a flush", x.seal(0), OK);
        due("flush counter", x.flushes(W), 0);
        Check.due("the writer", Check.writer(x), FRESH_WRITER);
        Check.keeps("sealed after a flush", x, 0, ALTERNATING);
    }

    private static void sealLeavesReaderAndOtherSlots() {
        leavesReader("seal(1)", x -> x.seal(1));
        for (int slot = 0; slot < 3; slot++) {
            int sealed = slot;
            leavesSlots("seal(" + sealed + ")", sealed, x -> x.seal(sealed));
            leavesReader("seal(" + sealed + ")", x -> x.seal(sealed));
        }
    }

    // Promise 4: discard

    private static void discardMakesTheWriterFresh() {
        for (Scene scene : scenes()) {
            MarkovCloner x = scene.maker().get();
            x.discard();
            Check.due(scene.name() + ": the writer", Check.writer(x), FRESH_WRITER);
            x.drop(0);
            due(scene.name() + ": the message is lost", x.seal(0), NONE);
            Check.store(x, 0, "0011");
            Check.keeps(scene.name() + ": the next message", x, 0, "0011");
        }
        MarkovCloner x = flushed();
        x.discard();
        due("flush counter", x.flushes(W), 0);
        x.discard();
        Check.due("twice", Check.writer(x), FRESH_WRITER);
    }

    private static void discardLeavesSlotsAndReader() {
        leavesReader("discard()", x -> x.discard());
        leavesSlots("discard()", x -> x.discard());
    }

    // Promise 7: recode

    private static void recodeOfAWrongSlot() {
        for (int slot : WRONG_SLOTS) {
            everySceneRefuses("recode(" + slot + ")", x -> x.recode(slot), BAD);
        }
        for (int slot = 0; slot < 3; slot++) {
            MarkovCloner x = archive();
            Check.store(x, slot, "011");
            due("recode(" + slot + ")", x.recode(slot), OK);
            due("length", x.position(W), 3);
        }
    }

    private static void recodeOfAFreeSlot() {
        for (int slot = 0; slot < 3; slot++) {
            int free = slot;
            everySceneRefuses("recode(" + free + ")", x -> x.lengthOf(free) == 0, x -> x.recode(free), NONE);
        }
        MarkovCloner x = midst();
        due("drop(0)", x.drop(0), OK);
        due("a freed slot", x.recode(0), NONE);
    }

    private static void recodeBeyondMaxBits() {
        for (int held = 1; held <= 80; held++) {
            MarkovCloner x = archive();
            Check.store(x, 1, FULL_LENGTH.substring(80 - held));
            for (int length = 0; length <= 80; length++) {
                x.discard();
                Check.putAll(x, FULL_LENGTH.substring(0, length));
                String before = Check.writer(x);
                boolean room = length + held <= 80;
                due("recode of " + held + " to " + length, x.recode(1), room ? OK : FULL);
                due("length", x.position(W), room ? length + held : length);
                if (!room) {
                    Check.due("no bit is learned", Check.writer(x), before);
                }
            }
        }
        for (int slot = 0; slot < 3; slot++) {
            int held = slot;
            everySceneRefuses("recode(" + held + ")",
                x -> x.lengthOf(held) > 0 && x.lengthOf(held) + x.position(W) > 80,
                x -> x.recode(held), FULL);
        }
    }

    private static void recodeAppendsFirstToLast() {
        MarkovCloner x = midst();
        MarkovCloner same = archive();
        Check.putAll(same, "1011010" + "1100101011110000101" + "11001");
        due("recode(0)", x.recode(0), OK);
        due("recode(2)", x.recode(2), OK);
        Check.due("learned as by put", Check.writer(x), Check.writer(same));
        due("seal", x.seal(1), OK);
        Check.keeps("appended", x, 1, "1011010" + "1100101011110000101" + "11001");
        for (String bits : EDGE_MESSAGES) {
            MarkovCloner edge = archive();
            Check.store(edge, 0, bits);
            due("recode of " + bits, edge.recode(0), OK);
            Check.due("learned as by put", Check.writer(edge), Check.writer(putOf(bits)));
            due("seal", edge.seal(1), OK);
            Check.keeps("recoded", edge, 1, bits);
        }
    }

    private static void exactlyMaxBitsByRecode() {
        for (int held : new int[] {1, 2, 40, 79, 80}) {
            MarkovCloner x = archive();
            Check.store(x, 1, FULL_LENGTH.substring(80 - held));
            Check.putAll(x, FULL_LENGTH.substring(0, 80 - held));
            due("recode of the last " + held, x.recode(1), OK);
            due("length", x.position(W), 80);
            due("one bit more", x.put(0, 1), FULL);
            due("seal", x.seal(2), OK);
            Check.keeps("80 bits", x, 2, FULL_LENGTH);
        }
    }

    private static void recodeGoesOn() {
        MarkovCloner x = flushed();
        MarkovCloner same = archive();
        Check.putAll(same, ALTERNATING + ALTERNATING);
        due("recode(1)", x.recode(1), OK);
        Check.due("the automaton goes on, with its flushes", Check.writer(x), Check.writer(same));
        MarkovCloner fresh = archive();
        Check.store(fresh, 0, "01101");
        due("into a fresh writer", fresh.recode(0), OK);
        due("and again", fresh.recode(0), OK);
        Check.due("as ten bits put", Check.writer(fresh), Check.writer(putOf("0110101101")));
    }

    private static MarkovCloner putOf(String bits) {
        MarkovCloner x = archive();
        Check.putAll(x, bits);
        return x;
    }

    private static void recodeLeavesSlots() {
        for (int slot = 0; slot < 3; slot++) {
            int recoded = slot;
            leavesSlots("recode(" + recoded + ")", x -> x.recode(recoded));
        }
    }

    private static void recodeLeavesReader() {
        for (int slot = 0; slot < 3; slot++) {
            int recoded = slot;
            leavesReader("recode(" + recoded + ")", x -> x.recode(recoded));
        }
        MarkovCloner x = midst();
        String before = Check.reader(x);
        due("recode of the open slot", x.recode(0), OK);
        Check.due("the reader", Check.reader(x), before);
        Check.due("the rest of its message", Check.takeAll(x), "011110000101");
    }

    private static void put() {
        Check.part("Promise 2: put");
        Check.sentence("writes n bits: the n lowest bits of value, the highest of these first.",
            WriterTest::highestOfTheLowestBitsFirst);
        Check.sentence("The other bits of value are ignored; value may be any int, negative ones included.",
            WriterTest::otherBitsOfValueAreIgnored);
        Check.sentence("n < 1 or n > `MAX_PIECE`: `BAD`.", WriterTest::putOfAWrongPiece);
        Check.sentence("Length of the message being written + n > `MAX_BITS`: `FULL`; no bit is written.",
            WriterTest::putBeyondMaxBits);
        Check.sentence("Otherwise each bit in turn is appended to the message being written and learned by the"
            + " writer's automaton; `OK`.", WriterTest::eachBitInTurn);
        Check.sentence("Reaching a length of exactly `MAX_BITS` is allowed.", WriterTest::exactlyMaxBitsByPut);
        Check.sentence("The slots and the reader do not change.", WriterTest::putLeavesSlotsAndReader);
    }

    private static void seal() {
        Check.part("Promise 3: seal");
        Check.sentence("slot < 0 or slot >= `SLOTS`: `BAD`.", WriterTest::sealOfAWrongSlot);
        Check.sentence("The slot holds a message: `BUSY`.", WriterTest::sealOfAHeldSlot);
        Check.sentence("The message being written has 0 bits: `NONE`.", WriterTest::sealOfNothing);
        Check.sentence("Otherwise the slot holds that message and the writer becomes a fresh writer (0 bits, fresh"
            + " automaton, flush counter 0); `OK`.", WriterTest::sealStoresAndMakesTheWriterFresh);
        Check.sentence("The reader and the other slots do not change.", WriterTest::sealLeavesReaderAndOtherSlots);
    }

    private static void discard() {
        Check.part("Promise 4: discard");
        Check.sentence("makes the writer a fresh writer; the message being written is lost, and the writer's"
            + " automaton is fresh, with flush counter 0.", WriterTest::discardMakesTheWriterFresh);
        Check.sentence("Nothing else changes: neither the slots nor the reader.",
            WriterTest::discardLeavesSlotsAndReader);
    }

    private static void recode() {
        Check.part("Promise 7: recode");
        Check.sentence("slot < 0 or slot >= `SLOTS`: `BAD`.", WriterTest::recodeOfAWrongSlot);
        Check.sentence("The slot is free: `NONE`.", WriterTest::recodeOfAFreeSlot);
        Check.sentence("Length of the message being written + length of the slot's message > `MAX_BITS`: `FULL`;"
            + " no bit is appended.", WriterTest::recodeBeyondMaxBits);
        Check.sentence("Otherwise all bits of the slot's message, first to last, are appended to the message being"
            + " written and learned by the writer's automaton as by `put`; `OK`.",
            WriterTest::recodeAppendsFirstToLast);
        Check.sentence("A resulting length of exactly `MAX_BITS` is allowed.", WriterTest::exactlyMaxBitsByRecode);
        Check.sentence("The writer's automaton goes on from where it stands; it is not made fresh.",
            WriterTest::recodeGoesOn);
        Check.sentence("The slots do not change.", WriterTest::recodeLeavesSlots);
        Check.sentence("The reader does not change, even if it is open on this slot.", WriterTest::recodeLeavesReader);
    }

    public static void main(String[] args) {
        put();
        seal();
        discard();
        recode();
        Check.finish();
    }
}
