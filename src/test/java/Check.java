import java.util.Objects;

/** Collects wrong answers, and tells all that can be seen of an archive. */
final class Check {
    // a broken class can give a million wrong answers: the first ones of each sentence are enough
    private static final int SHOWN = 20;

    private static int wrong = 0;
    private static int wrongHere = 0;
    private static int made = 0;
    private static int sentences = 0;
    private static String part = "";
    private static String where = "";

    private Check() {
    }

    static void due(String what, Object got, Object want) {
        made++;
        if (!Objects.equals(got, want)) {
            wrong++;
            wrongHere++;
            if (wrongHere <= SHOWN) {
                System.out.println(where + what + " answered " + got + ", due is " + want);
            }
        }
    }

    /** The heading in the document under which the next sentences stand. */
    static void part(String heading) {
        part = heading;
    }

    /** One test for one sentence of the document, which is quoted in its own words. */
    static void sentence(String quote, Runnable test) {
        int before = made;
        wrongHere = 0;
        where = part + ", \"" + quote + "\": ";
        try {
            test.run();
        } catch (RuntimeException e) {
            due("a call", e, "an answer");
        }
        due("the test made checks", made > before, true);
        where = "";
        sentences++;
    }

    /** No answer was wrong in the sentence that is being tested. */
    static boolean rightHere() {
        return wrongHere == 0;
    }

    static boolean allRight() {
        return wrong == 0;
    }

    static void finish() {
        String tests = sentences == 0 ? "" : " for " + sentences + " sentences";
        System.out.println(made + " checks" + tests + ", " + wrong + " wrong");
        if (wrong != 0 || made == 0) {
            System.exit(1);
        }
    }

    /** One side's automaton: states, current, flushes, then for each state next 0, next 1, count 0, count 1. */
    static String automaton(MarkovCloner x, int side) {
        StringBuilder text = new StringBuilder();
        text.append(x.states(side)).append(" at ").append(x.current(side));
        text.append(" flushes ").append(x.flushes(side));
        for (int s = 0; s < x.states(side); s++) {
            text.append(" | ").append(x.next(side, s, 0)).append(' ').append(x.next(side, s, 1));
            text.append(' ').append(x.count(side, s, 0)).append(' ').append(x.count(side, s, 1));
        }
        return text.toString();
    }

    static String writer(MarkovCloner x) {
        return "wrote " + x.position(MarkovCloner.WRITER) + ": " + automaton(x, MarkovCloner.WRITER);
    }

    static String reader(MarkovCloner x) {
        return "slot " + x.readerSlot() + " read " + x.position(MarkovCloner.READER) + ": "
            + automaton(x, MarkovCloner.READER);
    }

    static String slots(MarkovCloner x) {
        StringBuilder text = new StringBuilder("slots");
        for (int a = 0; a < MarkovCloner.SLOTS; a++) {
            text.append(' ').append(x.lengthOf(a)).append(':');
            for (int b = 0; b < MarkovCloner.SLOTS; b++) {
                text.append(x.compare(a, b)).append(',');
            }
        }
        return text.toString();
    }

    static String all(MarkovCloner x) {
        return writer(x) + "\n" + reader(x) + "\n" + slots(x);
    }

    static void putAll(MarkovCloner x, String bits) {
        for (int i = 0; i < bits.length(); i++) {
            due("put of bit " + i, x.put(bits.charAt(i) - '0', 1), MarkovCloner.OK);
        }
    }

    static void store(MarkovCloner x, int slot, String bits) {
        putAll(x, bits);
        due("seal(" + slot + ")", x.seal(slot), MarkovCloner.OK);
    }

    /** The rest of the open message, or all of it just after open. */
    static String takeAll(MarkovCloner x) {
        StringBuilder bits = new StringBuilder();
        for (int i = 0; i <= MarkovCloner.MAX_BITS; i++) {
            int bit = x.take(1);
            if (bit < 0) {
                break;
            }
            bits.append(bit);
        }
        return bits.toString();
    }

    /** The slot holds this message; the reader is moved to its end. */
    static void keeps(String what, MarkovCloner x, int slot, String bits) {
        due(what + ": open(" + slot + ")", x.open(slot), MarkovCloner.OK);
        due(what + ": message of slot " + slot, takeAll(x), bits);
    }
}
