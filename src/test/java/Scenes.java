import java.util.ArrayList;
import java.util.List;
import java.util.function.Function;
import java.util.function.Predicate;
import java.util.function.Supplier;

/** Archives in known states, the words of the document, and what may not change: for the tests of single sentences. */
abstract class Scenes {
    static final int W = MarkovCloner.WRITER;
    static final int R = MarkovCloner.READER;
    static final int OK = MarkovCloner.OK;
    static final int BAD = MarkovCloner.BAD;
    static final int FULL = MarkovCloner.FULL;
    static final int BUSY = MarkovCloner.BUSY;
    static final int NONE = MarkovCloner.NONE;
    static final int SHORT = MarkovCloner.SHORT;
    static final int MIN = Integer.MIN_VALUE;
    static final int MAX = Integer.MAX_VALUE;

    static final int[] WRONG_SLOTS = {MIN, -4, -1, 3, 4, MAX};
    static final int[] WRONG_PIECES = {MIN, -1, 0, 17, 32, 81, MAX};
    static final int[] WRONG_SIDES = {MIN, -4, -1, 2, 3, MAX};
    static final int[] WRONG_BITS = {MIN, -1, 2, 3, MAX};

    /** Of archive(): the automaton that has learned nothing, the fresh writer and the closed reader. */
    static final String FRESH_AUTOMATON = "2 at 0 flushes 0 | 1 1 2 2 | 0 0 2 2";
    static final String FRESH_WRITER = "wrote 0: " + FRESH_AUTOMATON;
    static final String CLOSED_READER = "slot -4 read 0: " + FRESH_AUTOMATON;
    static final String FREE_SLOTS = "slots 0:-4,-4,-4, 0:-4,-4,-4, 0:-4,-4,-4,";

    /** Of 40 and of 80 bits; each brings archive() to clones and flushes. */
    static final String ALTERNATING = "01".repeat(20);
    static final String FULL_LENGTH = "0110100111010001".repeat(5);

    /** Runs of 80 bits. Their codes are the shortest, and the code of zeros may have no length at all. */
    static final String ZEROS = "0".repeat(80);
    static final String ONES = "1".repeat(80);

    /** The edges of what a slot can hold. */
    static final String[] EDGE_MESSAGES = {"0", "1", "00", "11", ZEROS.substring(1), ZEROS, ONES, FULL_LENGTH};

    interface Call {
        int on(MarkovCloner x);
    }

    interface Act {
        void on(MarkovCloner x);
    }

    record Scene(String name, Supplier<MarkovCloner> maker) {
    }

    static void due(String what, int got, int want) {
        Check.due(what, got, want);
    }

    static MarkovCloner archive() {
        return new MarkovCloner(2, 8, 4, 4);
    }

    /** Slots 0 and 2 hold messages, the reader stands in the midst of slot 0, a message is being written. */
    static MarkovCloner midst() {
        MarkovCloner x = archive();
        Check.store(x, 0, "1100101011110000101");
        Check.store(x, 2, "11001");
        due("open(0)", x.open(0), OK);
        due("take(7)", x.take(7), 0b1100101);
        due("put", x.put(0b1011010, 7), OK);
        return x;
    }

    /** Both automata have clones and a flush behind them; the reader stands on slot 1. */
    static MarkovCloner flushed() {
        MarkovCloner x = archive();
        Check.store(x, 1, ALTERNATING);
        Check.putAll(x, ALTERNATING);
        due("open(1)", x.open(1), OK);
        Check.due("30 bits", x.take(15) + " " + x.take(15), 0b010101010101010 + " " + 0b101010101010101);
        Check.due("both have flushed", x.flushes(W) > 0 && x.flushes(R) > 0, true);
        return x;
    }

    /** Everything is full: the slots, the message being written, and the reader stands at the end of slot 1. */
    static MarkovCloner allFull() {
        MarkovCloner x = archive();
        Check.store(x, 0, "1");
        Check.store(x, 1, FULL_LENGTH);
        Check.store(x, 2, ALTERNATING + ALTERNATING);
        Check.putAll(x, FULL_LENGTH);
        Check.keeps("all full", x, 1, FULL_LENGTH);
        return x;
    }

    private static MarkovCloner justOpened() {
        MarkovCloner x = archive();
        Check.store(x, 2, "1101");
        due("open(2)", x.open(2), OK);
        return x;
    }

    private static MarkovCloner onlyWriting() {
        MarkovCloner x = archive();
        Check.putAll(x, "01101");
        return x;
    }

    private static MarkovCloner closedByDrop() {
        MarkovCloner x = flushed();
        due("drop(1)", x.drop(1), OK);
        return x;
    }

    private static MarkovCloner onlyRuns() {
        MarkovCloner x = archive();
        Check.store(x, 0, "0");
        Check.store(x, 1, ZEROS);
        Check.store(x, 2, ONES);
        due("open(1)", x.open(1), OK);
        due("take(16)", x.take(16), 0);
        Check.putAll(x, "00");
        return x;
    }

    static List<Scene> scenes() {
        return List.of(
            new Scene("a new object", Scenes::archive),
            new Scene("only writing", Scenes::onlyWriting),
            new Scene("just opened", Scenes::justOpened),
            new Scene("in the midst", Scenes::midst),
            new Scene("flushed", Scenes::flushed),
            new Scene("closed by drop", Scenes::closedByDrop),
            new Scene("only runs", Scenes::onlyRuns),
            new Scene("all full", Scenes::allFull));
    }

    /**
     * All that can be seen now, and all that comes of it when the object is used on. It tells what looks alone do
     * not: the bits being written, the bits of every slot and where the decoder stands. The object is used up.
     */
    static String now(MarkovCloner x) {
        return Check.all(x) + "\n" + usedOn(x);
    }

    /** What comes of the object when it is used on, without any call that only looks. The object is used up. */
    static String usedOn(MarkovCloner x) {
        StringBuilder text = new StringBuilder("rest ").append(Check.takeAll(x));
        for (int slot = 0; slot < MarkovCloner.SLOTS; slot++) {
            text.append("\nslot ").append(x.open(slot)).append(' ').append(Check.takeAll(x));
        }
        x.drop(0);
        for (int i = 0; i < MarkovCloner.MAX_BITS; i++) {
            x.put(i % 3 & 1, 1);
        }
        text.append("\nfilled ").append(x.seal(0)).append(' ').append(x.open(0)).append(' ').append(Check.takeAll(x));
        return text.toString();
    }

    private static void changesNothing(String what, Scene scene, Call call, int want) {
        MarkovCloner x = scene.maker().get();
        String twin = now(scene.maker().get());
        String whole = what + " (" + scene.name() + ")";
        due(whole, call.on(x), want);
        Check.due(whole + ": what is kept", now(x), twin);
    }

    static void everySceneRefuses(String what, Call call, int want) {
        everySceneRefuses(what, x -> true, call, want);
    }

    /** The call is refused in every scene that is so, and there is such a scene. */
    static void everySceneRefuses(String what, Predicate<MarkovCloner> isSo, Call call, int want) {
        int met = 0;
        for (Scene scene : scenes()) {
            // a class that took a wrong piece once would take one of MAX bits too, and be long about it
            if (!Check.rightHere()) {
                return;
            }
            if (isSo.test(scene.maker().get())) {
                changesNothing(what, scene, call, want);
                met++;
            }
        }
        Check.due(what + " was met in a scene", met > 0, true);
    }

    /** In every scene the act leaves the part that the view tells as it was. */
    private static void leaves(String what, Act act, Function<MarkovCloner, String> view) {
        for (Scene scene : scenes()) {
            MarkovCloner x = scene.maker().get();
            act.on(x);
            Check.due(what + " (" + scene.name() + ")", view.apply(x), view.apply(scene.maker().get()));
        }
    }

    static void leavesWriter(String what, Act act) {
        leaves(what + " leaves the writer", act, Scenes::writerNow);
    }

    static void leavesReader(String what, Act act) {
        leaves(what + " leaves the reader", act, Scenes::readerNow);
    }

    static void leavesSlots(String what, Act act) {
        leavesSlots(what, -1, act);
    }

    static void leavesSlots(String what, int but, Act act) {
        leaves(what + " leaves the slots", act, x -> slotsNow(x, but));
    }

    private static String writerNow(MarkovCloner x) {
        String text = Check.writer(x);
        x.put(1, 1);
        x.drop(0);
        x.seal(0);
        x.open(0);
        return text + " holds " + Check.takeAll(x);
    }

    private static String readerNow(MarkovCloner x) {
        return Check.reader(x) + " rest " + Check.takeAll(x) + " end " + Check.reader(x);
    }

    private static String slotsNow(MarkovCloner x, int but) {
        List<String> texts = new ArrayList<>();
        for (int slot = 0; slot < MarkovCloner.SLOTS; slot++) {
            if (slot != but) {
                texts.add(x.lengthOf(slot) + " " + x.open(slot) + " " + (x.lengthOf(slot) > 0 ? Check.takeAll(x) : ""));
            }
        }
        return texts.toString();
    }
}
