import java.util.ArrayList;
import java.util.List;
import java.util.Set;
import java.util.TreeSet;

/** The sentences of "The parts and their words", which belong to every promise. */
public final class PartsTest extends Scenes {
    private static final int[] EDGES = {
        MIN, -81, -17, -5, -4, -3, -2, -1, 0, 1, 2, 3, 4, 8, 15, 16, 17, 32, 33, 80, 81, 65536, MAX};
    private static final int[] VALUES = {MIN, -1, 0, 1, MAX};
    private static final int[] SIDES = {MIN, -1, 0, 1, 2, MAX};
    private static final int[] STATES = {MIN, -1, 0, 1, 2, 7, 8, 31, 32, MAX};
    private static final int[] BITS = {MIN, -1, 0, 1, 2, MAX};

    private static final String[] LOOKS = {
        "compare", "lengthOf", "readerSlot", "position", "states", "current", "flushes", "next", "count"};

    private record Named(String name, String arguments, Call call) {
        @Override
        public String toString() {
            return name + "(" + arguments + ")";
        }
    }

    private static void writerLearnsZeroToMaxBits() {
        MarkovCloner x = archive();
        Model m = new Model(2, 8, 4, 4);
        Check.due("0 bits", Check.writer(x), FRESH_WRITER);
        for (int i = 0; i < 80; i++) {
            int bit = FULL_LENGTH.charAt(i) - '0';
            due("put of bit " + i, x.put(bit, 1), OK);
            m.put(bit, 1);
            Check.due("after " + (i + 1) + " bits", Check.all(x), m.all());
        }
        due("position", x.position(W), 80);
        Check.due("80 bits have flushed", x.flushes(W) > 0, true);
    }

    private static void freshWriter() {
        MarkovCloner x = archive();
        Check.due("new", Check.writer(x), FRESH_WRITER);
        due("holds no bit", x.seal(0), NONE);
        Check.store(x, 0, ALTERNATING);
        Check.due("after seal", Check.writer(x), FRESH_WRITER);
        due("holds no bit after seal", x.seal(1), NONE);
        Check.putAll(x, ALTERNATING);
        x.discard();
        Check.due("after discard", Check.writer(x), FRESH_WRITER);
        due("holds no bit after discard", x.seal(1), NONE);
    }

    private static void slotsAreFreeOrHoldOneToMaxBits() {
        for (int slot = 0; slot < 3; slot++) {
            MarkovCloner x = archive();
            due("a free slot", x.lengthOf(slot), 0);
            for (int length : new int[] {1, 2, 79, 80}) {
                String bits = FULL_LENGTH.substring(0, length);
                Check.store(x, slot, bits);
                due("length", x.lengthOf(slot), length);
                Check.keeps("slot", x, slot, bits);
                due("drop", x.drop(slot), OK);
                due("free again", x.lengthOf(slot), 0);
            }
            due("a message of 0 bits", x.seal(slot), NONE);
            due("is not held", x.lengthOf(slot), 0);
        }
        MarkovCloner x = archive();
        String other = FULL_LENGTH.replace('0', '2').replace('1', '0').replace('2', '1');
        Check.store(x, 0, FULL_LENGTH);
        Check.store(x, 1, other);
        Check.store(x, 2, ALTERNATING + ALTERNATING);
        Check.keeps("three full slots", x, 0, FULL_LENGTH);
        Check.keeps("three full slots", x, 1, other);
        Check.keeps("three full slots", x, 2, ALTERNATING + ALTERNATING);
        due("there is no slot 3", x.lengthOf(3), BAD);
        due("there is no slot -1", x.lengthOf(-1), BAD);
    }

    private static void readerIsClosedOrOpenOnAMessage() {
        MarkovCloner x = archive();
        due("closed at first", x.readerSlot(), NONE);
        due("not opened on a free slot", x.open(0), NONE);
        due("closed still", x.readerSlot(), NONE);
        Check.store(x, 0, "10");
        due("a seal does not open", x.readerSlot(), NONE);
        due("open", x.open(0), OK);
        due("open on 0", x.readerSlot(), 0);
        due("drop", x.drop(0), OK);
        due("closed with its slot", x.readerSlot(), NONE);
        Check.store(x, 0, "01");
        due("a new message in the slot does not open", x.readerSlot(), NONE);
        due("take", x.take(1), NONE);
    }

    private static void readerLearnsWhatItDecoded() {
        for (String bits : new String[] {"1", ALTERNATING, FULL_LENGTH}) {
            MarkovCloner x = archive();
            Model m = new Model(2, 8, 4, 4);
            Check.store(x, 1, bits);
            Check.putAll(x, ALTERNATING);
            due("open", x.open(1), OK);
            Check.due("fresh when opened", Check.automaton(x, R), FRESH_AUTOMATON);
            for (int i = 0; i < bits.length(); i++) {
                due("position before bit " + i, x.position(R), i);
                m.put(x.take(1), 1);
                String learned = m.all().split("\n")[0].split(": ")[1];
                Check.due("automaton after bit " + i, Check.automaton(x, R), learned);
            }
            due("position at the end", x.position(R), bits.length());
            due("open again", x.open(1), OK);
            due("counted since it was opened", x.position(R), 0);
        }
    }

    private static void closedReader() {
        Check.due("new", Check.reader(archive()), CLOSED_READER);
        for (int decoded : new int[] {0, 1, 16, 39, 40}) {
            MarkovCloner x = archive();
            Check.store(x, 2, ALTERNATING);
            due("open", x.open(2), OK);
            for (int i = 0; i < decoded; i++) {
                due("bit", x.take(1), i & 1);
            }
            due("drop", x.drop(2), OK);
            Check.due("closed after " + decoded + " bits", Check.reader(x), CLOSED_READER);
        }
    }

    private static void firstBitHasIndexZero() {
        MarkovCloner x = archive();
        Check.store(x, 0, "10000");
        Check.store(x, 1, "01111");
        due("open(0)", x.open(0), OK);
        due("index 0 of slot 0", x.take(1), 1);
        due("indexes 1 to 4", x.take(4), 0);
        due("open(1)", x.open(1), OK);
        due("index 0 of slot 1", x.take(1), 0);
        due("indexes 1 to 4", x.take(4), 15);
        due("a difference at index 0 counts", x.compare(0, 1), MarkovCloner.GREATER);
    }

    private static List<Named> changingCalls() {
        List<Named> calls = new ArrayList<>();
        for (int a : EDGES) {
            for (int value : VALUES) {
                calls.add(new Named("put", value + ", " + a, x -> x.put(value, a)));
            }
            calls.add(new Named("seal", "" + a, x -> x.seal(a)));
            calls.add(new Named("open", "" + a, x -> x.open(a)));
            calls.add(new Named("take", "" + a, x -> x.take(a)));
            calls.add(new Named("recode", "" + a, x -> x.recode(a)));
            calls.add(new Named("drop", "" + a, x -> x.drop(a)));
        }
        return calls;
    }

    private static List<Named> looks() {
        List<Named> calls = new ArrayList<>();
        calls.add(new Named("readerSlot", "", x -> x.readerSlot()));
        for (int a : EDGES) {
            calls.add(new Named("lengthOf", "" + a, x -> x.lengthOf(a)));
            calls.add(new Named("position", "" + a, x -> x.position(a)));
            calls.add(new Named("states", "" + a, x -> x.states(a)));
            calls.add(new Named("current", "" + a, x -> x.current(a)));
            calls.add(new Named("flushes", "" + a, x -> x.flushes(a)));
            for (int b : EDGES) {
                calls.add(new Named("compare", a + ", " + b, x -> x.compare(a, b)));
            }
        }
        for (int side : SIDES) {
            for (int state : STATES) {
                for (int bit : BITS) {
                    String arguments = side + ", " + state + ", " + bit;
                    calls.add(new Named("next", arguments, x -> x.next(side, state, bit)));
                    calls.add(new Named("count", arguments, x -> x.count(side, state, bit)));
                }
            }
        }
        return calls;
    }

    private static List<Named> everyCall() {
        List<Named> calls = changingCalls();
        calls.addAll(looks());
        return calls;
    }

    /** Which negative answers the document knows for the call; any other answer is 0 or more. */
    private static Set<Integer> refusals(String name) {
        switch (name) {
            case "put":
                return Set.of(BAD, FULL);
            case "seal":
                return Set.of(BAD, BUSY, NONE);
            case "take":
                return Set.of(BAD, NONE, SHORT);
            case "recode":
                return Set.of(BAD, NONE, FULL);
            case "open": case "drop": case "compare":
                return Set.of(BAD, NONE);
            case "readerSlot":
                return Set.of(NONE);
            default:
                return Set.of(BAD);
        }
    }

    /** If not, the calls with edges would go through as many bits as an int can tell. */
    private static boolean piecesAreLimited() {
        due("put of 17 bits", archive().put(0, 17), BAD);
        due("take of 17 bits", allFull().take(17), BAD);
        return Check.rightHere();
    }

    private static void anyIntsAreAnswered() {
        if (!piecesAreLimited()) {
            return;
        }
        for (Scene scene : scenes()) {
            for (Named call : everyCall()) {
                int answer = call.call().on(scene.maker().get());
                boolean known = answer >= 0 || refusals(call.name()).contains(answer);
                Check.due(call + " (" + scene.name() + ") has an answer of the document", known, true);
            }
        }
        for (int width : VALUES) {
            for (int maxStates : VALUES) {
                for (int t1 : VALUES) {
                    for (int t2 : VALUES) {
                        MarkovCloner x = new MarkovCloner(width, maxStates, t1, t2);
                        due("put into any object", x.put(0x5A5A, 16), OK);
                    }
                }
            }
        }
    }

    private static void firstCheckDecides() {
        MarkovCloner full = allFull();
        due("put: BAD before FULL", full.put(0, 17), BAD);
        due("put: BAD before FULL", full.put(0, 0), BAD);
        due("take: BAD before SHORT", full.take(17), BAD);
        due("take: BAD before SHORT", full.take(0), BAD);
        due("recode: BAD before FULL", full.recode(3), BAD);
        due("recode: BAD before FULL", full.recode(-1), BAD);
        due("drop(0)", full.drop(0), OK);
        due("recode: NONE where no bit more has room", full.recode(0), NONE);
        due("compare: BAD before NONE", full.compare(0, 3), BAD);
        due("compare: BAD before NONE", full.compare(-1, 0), BAD);

        MarkovCloner fresh = archive();
        due("seal: BAD before NONE", fresh.seal(3), BAD);
        due("seal: BAD before NONE", fresh.seal(-1), BAD);
        due("take: BAD before NONE", fresh.take(17), BAD);
        due("take: BAD before NONE", fresh.take(0), BAD);
        Check.store(fresh, 1, "1");
        due("seal: BUSY before NONE", fresh.seal(1), BUSY);
    }

    private static void refusedCallsChangeNothing() {
        if (!piecesAreLimited()) {
            return;
        }
        Set<String> seen = new TreeSet<>();
        for (Scene scene : scenes()) {
            String twin = now(scene.maker().get());
            for (Named call : everyCall()) {
                MarkovCloner x = scene.maker().get();
                int answer = call.call().on(x);
                if (answer < 0) {
                    Check.due(call + " (" + scene.name() + "): what is kept", now(x), twin);
                    seen.add(call.name() + " " + answer);
                }
            }
        }
        Set<String> want = new TreeSet<>();
        for (Named call : everyCall()) {
            for (int refusal : refusals(call.name())) {
                want.add(call.name() + " " + refusal);
            }
        }
        Check.due("every refusal was met", seen, want);
    }

    private static void lookChangesNothing(String name) {
        for (Scene scene : scenes()) {
            MarkovCloner x = scene.maker().get();
            MarkovCloner y = scene.maker().get();
            for (Named call : looks()) {
                if (call.name().equals(name)) {
                    call.call().on(x);
                    call.call().on(y);
                }
            }
            // the twins are never looked at before they are used on, so that a look can't hurt both alike
            Check.due(name + " (" + scene.name() + "): what comes of it", usedOn(x), usedOn(scene.maker().get()));
            Check.due(name + " (" + scene.name() + "): what is kept", now(y), now(scene.maker().get()));
        }
    }

    public static void main(String[] args) {
        Check.part("The parts and their words");
        Check.sentence("The writer** holds the message being written (0 to `MAX_BITS` bits) and an automaton that was"
            + " fresh before the first bit of that message and has learned exactly its bits, in order.",
            PartsTest::writerLearnsZeroToMaxBits);
        Check.sentence("A **fresh writer** holds the message of 0 bits and a fresh automaton.", PartsTest::freshWriter);
        Check.sentence("A slot**, numbered 0 .. `SLOTS`-1, is free or holds a sealed message of 1 to `MAX_BITS` bits.",
            PartsTest::slotsAreFreeOrHoldOneToMaxBits);
        Check.sentence("The reader** is closed, or open on a slot that holds a message.",
            PartsTest::readerIsClosedOrOpenOnAMessage);
        Check.sentence("It has a position (the number of bits decoded since it was opened) and an automaton that was"
            + " fresh when the reader was opened and has learned exactly those decoded bits, in order.",
            PartsTest::readerLearnsWhatItDecoded);
        Check.sentence("A **closed reader** has position 0 and a fresh automaton.", PartsTest::closedReader);
        Check.sentence("The first bit of a message has index 0.", PartsTest::firstBitHasIndexZero);
        Check.sentence("All arguments may be any ints.", PartsTest::anyIntsAreAnswered);
        Check.sentence("The checks of a call are made in the order given and the first that applies decides.",
            PartsTest::firstCheckDecides);
        Check.sentence("A call that answers a negative number changes nothing.", PartsTest::refusedCallsChangeNothing);
        for (int i = 0; i < LOOKS.length; i++) {
            String name = LOOKS[i];
            Check.part("Promise " + (9 + i) + ": " + name);
            Check.sentence("Nothing changes.", () -> lookChangesNothing(name));
        }
        Check.finish();
    }
}
