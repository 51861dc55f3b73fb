/** The sentences of promises 11 to 17: readerSlot, position, states, current, flushes, next and count. */
public final class LookTest extends Scenes {
    /** With (1, 8, 4, 4): at the limit of 8 states, and three bits later flushed. */
    private static final String EIGHT_STATES = "0101010101010";
    private static final String FLUSHED = EIGHT_STATES + "101";

    private interface Look {
        int on(MarkovCloner x, int side);
    }

    private interface CellLook {
        int on(MarkovCloner x, int side, int state, int bit);
    }

    private static void wrongSides(String what, Look look) {
        for (int side : WRONG_SIDES) {
            everySceneRefuses(what + " of side " + side, x -> look.on(x, side), BAD);
        }
    }

    /** The same look at the writer that wrote the bits and at the reader that read them. */
    private static void bothSides(String what, String bits, Look look, int want) {
        MarkovCloner x = new MarkovCloner(1, 8, 4, 4);
        Check.putAll(x, bits);
        due(what + ", writer", look.on(x, W), want);
        // one bit more, so that the reader need not stand at the end, and the message is not empty
        due("put", x.put(1, 1), OK);
        due("seal", x.seal(0), OK);
        due("open", x.open(0), OK);
        for (int i = 0; i < bits.length(); i++) {
            due("bit " + i, x.take(1), bits.charAt(i) - '0');
        }
        due(what + ", reader", look.on(x, R), want);
    }

    /** After each call that makes an automaton fresh, the look answers as at the start. */
    private static void freshAgain(String what, Look look, int want) {
        due(what + ", new writer", look.on(archive(), W), want);
        due(what + ", closed reader of a new object", look.on(archive(), R), want);
        MarkovCloner x = flushed();
        x.discard();
        due(what + ", writer after discard", look.on(x, W), want);
        MarkovCloner y = flushed();
        due("seal", y.seal(0), OK);
        due(what + ", writer after seal", look.on(y, W), want);
        due("open", y.open(1), OK);
        due(what + ", reader just opened", look.on(y, R), want);
        Check.takeAll(y);
        due("drop", y.drop(1), OK);
        due(what + ", reader closed by drop", look.on(y, R), want);
    }

    // Promise 11: readerSlot

    private static void readerSlot() {
        MarkovCloner x = archive();
        due("closed", x.readerSlot(), NONE);
        for (int slot = 0; slot < 3; slot++) {
            Check.store(x, slot, "10");
            due("open", x.open(slot), OK);
            due("open on " + slot, x.readerSlot(), slot);
        }
        Check.takeAll(x);
        due("at the end of its message", x.readerSlot(), 2);
        due("drop(1)", x.drop(1), OK);
        due("another slot dropped", x.readerSlot(), 2);
        due("drop(2)", x.drop(2), OK);
        due("its slot dropped", x.readerSlot(), NONE);
    }

    // Promise 12: position

    private static void positionOfTheWriter() {
        MarkovCloner x = archive();
        for (int length = 0; length <= 80; length++) {
            due("length", x.position(W), length);
            due("put", x.put(length & 1, 1), length < 80 ? OK : FULL);
        }
        due("after FULL", x.position(W), 80);
        due("seal", x.seal(0), OK);
        due("after seal", x.position(W), 0);
        due("recode", x.recode(0), OK);
        due("after recode", x.position(W), 80);
        x.discard();
        due("after discard", x.position(W), 0);
    }

    private static void positionOfTheReader() {
        MarkovCloner x = archive();
        due("closed", x.position(R), 0);
        Check.store(x, 0, FULL_LENGTH);
        due("closed still", x.position(R), 0);
        due("open", x.open(0), OK);
        for (int i = 0; i < 80; i++) {
            due("position", x.position(R), i);
            due("take", x.take(1), FULL_LENGTH.charAt(i) - '0');
        }
        due("at the end", x.position(R), 80);
        due("SHORT", x.take(1), SHORT);
        due("after SHORT", x.position(R), 80);
        due("drop", x.drop(0), OK);
        due("closed by drop", x.position(R), 0);
    }

    private static void positionOfAnyOtherSide() {
        wrongSides("position", (x, side) -> x.position(side));
    }

    // Promises 13 to 15: states, current and flushes

    private static void statesOfAWrongSide() {
        wrongSides("states", (x, side) -> x.states(side));
    }

    private static void states() {
        bothSides("none cloned", "", (x, side) -> x.states(side), 1);
        bothSides("at the limit", EIGHT_STATES, (x, side) -> x.states(side), 8);
        bothSides("after a flush", FLUSHED, (x, side) -> x.states(side), 1);
        freshAgain("states", (x, side) -> x.states(side), 2);
    }

    private static void statesOfAClosedReader() {
        for (int width = 1; width <= 4; width++) {
            MarkovCloner x = new MarkovCloner(width, 8, 2, 2);
            due("width " + width, x.states(R), width);
            Check.store(x, 0, ALTERNATING);
            due("after seal", x.states(R), width);
            due("open", x.open(0), OK);
            due("take", x.take(6), 0b010101);
            Check.due("grown", x.states(R) > width, true);
            due("drop", x.drop(0), OK);
            due("closed again", x.states(R), width);
        }
    }

    private static void currentOfAWrongSide() {
        wrongSides("current", (x, side) -> x.current(side));
    }

    private static void current() {
        bothSides("at the start", "", (x, side) -> x.current(side), 0);
        bothSides("in the last clone", EIGHT_STATES, (x, side) -> x.current(side), 7);
        bothSides("after a flush", FLUSHED, (x, side) -> x.current(side), 0);
    }

    private static void currentOfAClosedReader() {
        freshAgain("current", (x, side) -> x.current(side), 0);
        MarkovCloner x = midst();
        Check.due("not 0 while open", x.current(R) != 0, true);
        due("drop", x.drop(0), OK);
        due("closed", x.current(R), 0);
    }

    private static void flushesOfAWrongSide() {
        wrongSides("flushes", (x, side) -> x.flushes(side));
    }

    private static void flushes() {
        bothSides("none", EIGHT_STATES, (x, side) -> x.flushes(side), 0);
        bothSides("one", FLUSHED, (x, side) -> x.flushes(side), 1);
        bothSides("two", FLUSHED + FLUSHED, (x, side) -> x.flushes(side), 2);
        MarkovCloner many = new MarkovCloner(4, 8, 2, 2);
        for (int i = 1; i <= 10; i++) {
            due("eight bits", many.put(0b10101010, 8), OK);
            due("a flush with each eight bits", many.flushes(W), i);
        }
    }

    private static void flushesSinceFresh() {
        freshAgain("flushes", (x, side) -> x.flushes(side), 0);
        MarkovCloner x = new MarkovCloner(4, 8, 2, 2);
        for (int round = 0; round < 3; round++) {
            due("put", x.put(0b10101010, 8), OK);
            due("counted anew in round " + round, x.flushes(W), 1);
            due("seal", x.seal(round), OK);
            due("none since the seal", x.flushes(W), 0);
            due("open", x.open(round), OK);
            due("none since opening", x.flushes(R), 0);
            due("take", x.take(8), 0b10101010);
            due("one since opening", x.flushes(R), 1);
        }
    }

    // Promises 16 and 17: next and count

    private static void wrongSidesOfCells(String what, CellLook look) {
        wrongSides(what, (x, side) -> look.on(x, side, 0, 0));
        wrongSides(what, (x, side) -> look.on(x, side, 1, 1));
    }

    private static void wrongStates(String what, CellLook look) {
        for (int side : new int[] {W, R}) {
            for (int state : new int[] {MIN, -2, -1, 8, 32, 33, 64, MAX}) {
                everySceneRefuses(what + " of state " + state, x -> look.on(x, side, state, 1), BAD);
                everySceneRefuses(what + " of state " + state, x -> look.on(x, side, state, 0), BAD);
            }
            for (Scene scene : scenes()) {
                MarkovCloner x = scene.maker().get();
                int states = x.states(side);
                due(what + " of state states (" + scene.name() + ")", look.on(x, side, states, 0), BAD);
                Check.due(what + " of the last state", look.on(x, side, states - 1, 1) >= 0, true);
                Check.due(what + " of the first state", look.on(x, side, 0, 0) >= 0, true);
            }
        }
        MarkovCloner greatest = new MarkovCloner(1, 32, 2, 2);
        int bits = 0x2545F491;
        for (int i = 0; i < 80 && greatest.states(W) < 32; i++) {
            bits = bits * 69069 + 1;
            greatest.put(bits >>> 31, 1);
        }
        due("32 states", greatest.states(W), 32);
        Check.due(what + " of state 31 of 32", look.on(greatest, W, 31, 1) >= 0, true);
        due(what + " of state 32 of 32", look.on(greatest, W, 32, 0), BAD);
        due(what + " of state 31 of the reader", look.on(greatest, R, 31, 1), BAD);
    }

    private static void wrongBits(String what, CellLook look) {
        for (int bit : WRONG_BITS) {
            everySceneRefuses(what + " of bit " + bit, x -> look.on(x, W, 0, bit), BAD);
            everySceneRefuses(what + " of bit " + bit, x -> look.on(x, R, 1, bit), BAD);
        }
    }

    private static void next() {
        bothSides("next(0, 0)", EIGHT_STATES, (x, side) -> x.next(side, 0, 0), 1);
        bothSides("next(0, 1)", EIGHT_STATES, (x, side) -> x.next(side, 0, 1), 0);
        bothSides("next(1, 1)", EIGHT_STATES, (x, side) -> x.next(side, 1, 1), 2);
        bothSides("next(6, 0)", EIGHT_STATES, (x, side) -> x.next(side, 6, 0), 7);
        bothSides("next(7, 0)", EIGHT_STATES, (x, side) -> x.next(side, 7, 0), 0);
        bothSides("next(7, 1)", EIGHT_STATES, (x, side) -> x.next(side, 7, 1), 6);
    }

    private static void presentStates(String what, CellLook look) {
        bothSides(what + "(7, 1) before the flush", EIGHT_STATES, (x, side) -> Math.min(look.on(x, side, 7, 1), 0), 0);
        bothSides(what + "(7, 1) after the flush", FLUSHED, (x, side) -> look.on(x, side, 7, 1), BAD);
        bothSides(what + "(1, 0) after the flush", FLUSHED, (x, side) -> look.on(x, side, 1, 0), BAD);
        bothSides(what + "(0, 1) after the flush", FLUSHED, (x, side) -> Math.min(look.on(x, side, 0, 1), 0), 0);
        freshAgain(what + "(2, 0)", (x, side) -> look.on(x, side, 2, 0), BAD);
        freshAgain(what + "(1, 0)", (x, side) -> Math.min(look.on(x, side, 1, 0), 0), 0);
    }

    private static void count() {
        bothSides("count(0, 0)", EIGHT_STATES, (x, side) -> x.count(side, 0, 0), 6);
        bothSides("count(0, 1)", EIGHT_STATES, (x, side) -> x.count(side, 0, 1), 2);
        bothSides("count(1, 1)", EIGHT_STATES, (x, side) -> x.count(side, 1, 1), 8);
        bothSides("count(6, 0)", EIGHT_STATES, (x, side) -> x.count(side, 6, 0), 8);
        bothSides("count(6, 1), the least", EIGHT_STATES, (x, side) -> x.count(side, 6, 1), 1);
        bothSides("count(7, 1)", EIGHT_STATES, (x, side) -> x.count(side, 7, 1), 3);
        bothSides("count(0, 0) after a flush", FLUSHED, (x, side) -> x.count(side, 0, 0), 2);
        // the greatest: a sum of CAP
        MarkovCloner x = new MarkovCloner(1, 8, 64, 64);
        Check.putAll(x, "1".repeat(31));
        due("count of 31 ones", x.count(W, 0, 1), 126);
    }

    private static void oneNumber() {
        Check.part("Promise 11: readerSlot");
        Check.sentence("answers the number of the slot the reader is open on, or `NONE` if the reader is closed.",
            LookTest::readerSlot);
        Check.part("Promise 12: position");
        Check.sentence("for `WRITER`, the length of the message being written", LookTest::positionOfTheWriter);
        Check.sentence("for `READER`, the reader's position (0 if it is closed)", LookTest::positionOfTheReader);
        Check.sentence("for any other side, `BAD`.", LookTest::positionOfAnyOtherSide);
        Check.part("Promise 13: states");
        Check.sentence("side is neither `WRITER` nor `READER`: `BAD`.", LookTest::statesOfAWrongSide);
        Check.sentence("Otherwise the number of states of that side's automaton.", LookTest::states);
        Check.sentence("For a closed reader this is that of a fresh automaton, width.",
            LookTest::statesOfAClosedReader);
        Check.part("Promise 14: current");
        Check.sentence("side is neither `WRITER` nor `READER`: `BAD`.", LookTest::currentOfAWrongSide);
        Check.sentence("Otherwise the current state of that side's automaton.", LookTest::current);
        Check.sentence("For a closed reader this is 0.", LookTest::currentOfAClosedReader);
        Check.part("Promise 15: flushes");
        Check.sentence("side is neither `WRITER` nor `READER`: `BAD`.", LookTest::flushesOfAWrongSide);
        Check.sentence("Otherwise the flush counter of that side's automaton.", LookTest::flushes);
        Check.sentence("It counts the flushes since that automaton was last fresh; for a closed reader it is 0.",
            LookTest::flushesSinceFresh);
    }

    private static void cells() {
        CellLook next = (x, side, state, bit) -> x.next(side, state, bit);
        CellLook count = (x, side, state, bit) -> x.count(side, state, bit);
        Check.part("Promise 16: next");
        Check.sentence("side is neither `WRITER` nor `READER`: `BAD`.", () -> wrongSidesOfCells("next", next));
        Check.sentence("state < 0 or state >= states(side): `BAD`.", () -> wrongStates("next", next));
        Check.sentence("bit is neither 0 nor 1: `BAD`.", () -> wrongBits("next", next));
        Check.sentence("Otherwise next(state,bit) of that side's automaton.", LookTest::next);
        Check.sentence("The limit for state is the present number of states, so after a flush, or when the automaton"
            + " has become fresh, states that existed only through cloning are out of range.",
            () -> presentStates("next", next));
        Check.part("Promise 17: count");
        Check.sentence("answers `BAD` in the same cases as `next`: side is neither `WRITER` nor `READER`",
            () -> wrongSidesOfCells("count", count));
        Check.sentence("state < 0 or state >= states(side); bit is neither 0 nor 1.",
            () -> wrongStates("count", count));
        Check.sentence("bit is neither 0 nor 1.", () -> wrongBits("count", count));
        Check.sentence("Otherwise it answers count(state,bit) of that side's automaton, which is at least 1.",
            LookTest::count);
        Check.sentence("state < 0 or state >= states(side)", () -> presentStates("count", count));
    }

    public static void main(String[] args) {
        oneNumber();
        cells();
        Check.finish();
    }
}
