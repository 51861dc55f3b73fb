import java.util.Arrays;

/** The sentences of promise 1: the constructor's limits and the new object. */
public final class StartTest extends Scenes {
    private static void anyIntsAreAccepted() {
        int[] ints = {MIN, MIN + 1, -1, 0, 1, 2, 4, 8, 32, 64, 65, MAX - 1, MAX};
        for (int a : ints) {
            for (int b : ints) {
                for (int[] four : new int[][] {{a, b, a, b}, {a, a, b, b}, {b, a, a, b}}) {
                    MarkovCloner x = new MarkovCloner(four[0], four[1], four[2], four[3]);
                    Model m = new Model(four[0], four[1], four[2], four[3]);
                    for (int i = 0; i < 5; i++) {
                        due("put", x.put(0xD235 << i, 16), m.put(0xD235 << i, 16));
                        Check.due("with " + a + " and " + b, Check.all(x), m.all());
                    }
                }
            }
        }
    }

    /** The four limits an object shows: width is seen at once, the others through what is learned. */
    private static void limits(String what, MarkovCloner x, int[] want) {
        Model m = new Model(want[0], want[1], want[2], want[3]);
        due(what + ": width of the writer", x.states(W), want[0]);
        due(what + ": width of the reader", x.states(R), want[0]);
        for (String bits : new String[] {FULL_LENGTH, "0".repeat(80), "1".repeat(40) + ALTERNATING, manyStates()}) {
            Check.putAll(x, bits);
            for (char bit : bits.toCharArray()) {
                m.put(bit - '0', 1);
            }
            Check.due(what, Check.all(x), m.all());
            x.discard();
            m.discard();
        }
    }

    private static String manyStates() {
        StringBuilder text = new StringBuilder();
        int bits = 0x2545F491;
        for (int i = 0; i < 80; i++) {
            bits = bits * 69069 + 1;
            text.append(bits >>> 31);
        }
        return text.toString();
    }

    private static void clampedOnItsOwn() {
        int[] least = {1, 8, 2, 2};
        int[] greatest = {4, 32, 64, 64};
        int[] usual = {2, 10, 5, 4};
        // each argument below, above or within its range, whatever the three others are
        for (int choice = 0; choice < 81; choice++) {
            int[] given = new int[4];
            int[] want = new int[4];
            int rest = choice;
            for (int i = 0; i < 4; i++) {
                given[i] = rest % 3 == 0 ? least[i] - 1 : rest % 3 == 1 ? greatest[i] + 1 : usual[i];
                want[i] = rest % 3 == 0 ? least[i] : rest % 3 == 1 ? greatest[i] : usual[i];
                rest /= 3;
            }
            limits("choice " + choice, new MarkovCloner(given[0], given[1], given[2], given[3]), want);
        }
    }

    private static void width() {
        int[][] pairs = {{MIN, 1}, {-1, 1}, {0, 1}, {1, 1}, {2, 2}, {3, 3}, {4, 4}, {5, 4}, {6, 4}, {MAX, 4}};
        for (int[] pair : pairs) {
            MarkovCloner x = new MarkovCloner(pair[0], 8, 4, 4);
            due("width " + pair[0] + ", writer", x.states(W), pair[1]);
            due("width " + pair[0] + ", reader", x.states(R), pair[1]);
            due("width " + pair[0] + ", the last leads to the first", x.next(W, pair[1] - 1, 0), 0);
        }
    }

    private static void maxStates() {
        int[] wrong = {MIN, -1, 0, 1, 7, 33, 34, 64, MAX};
        for (int given : wrong) {
            due("maxStates " + given, greatestStates(given), given < 8 ? 8 : 32);
        }
        for (int given = 8; given <= 32; given++) {
            due("maxStates " + given, greatestStates(given), given);
        }
    }

    private static int greatestStates(int maxStates) {
        MarkovCloner x = new MarkovCloner(1, maxStates, 2, 2);
        int greatest = 0;
        for (char bit : manyStates().toCharArray()) {
            x.put(bit - '0', 1);
            greatest = Math.max(greatest, x.states(W));
        }
        return greatest;
    }

    private static void t1() {
        // the two states take turns: the counts of bit 0 are 2 and 2, then 6 and 2, then 6 and 6, and so on
        for (int given : new int[] {MIN, -1, 0, 1, 2}) {
            due("t1 = " + given + " clones at a count of 2", statesAfterZeros(given, 1), 3);
            // the clone that the first zero makes has counts of 1, and leads to a state with n = 5 + 1
            due("t1 = " + given + " does not clone at 1", statesAfter(given, 2, "00"), 2);
        }
        due("t1 = 3 does not clone at 2", statesAfterZeros(3, 1), 2);
        // c is 62 at the 31st bit and 66 at the 33rd; n - c is 2, the successor's count of bit 1
        due("t1 = 62 clones at 62", statesAfterZeros(62, 31), 3);
        due("t1 = 63 does not clone at 62", statesAfterZeros(63, 31), 2);
        due("t1 = 64 does not clone at 62", statesAfterZeros(64, 31), 2);
        // the clone made at 66 has a count of 66 * 66 / 68 = 64, and leads on to a state with n = 70 + 2
        for (int given : new int[] {64, 65, 66, 67, MAX}) {
            due("t1 = " + given + " clones at 66 and then at 64", statesAfterZeros(given, 34), 4);
        }
        // 31 zeros and a one are halved to counts of 63 and 3
        String zero = "0".repeat(31) + "10";
        due("t1 = 63 clones at 63", statesAfter(63, 3, zero), 2);
        due("t1 = 64 does not clone at 63", statesAfter(64, 3, zero), 1);
        due("t1 = 65 does not clone at 63", statesAfter(65, 3, zero), 1);
    }

    private static void t2() {
        for (int given : new int[] {MIN, -1, 0, 1, 2}) {
            // the second zero meets c = 6, n = 8; with t1 = 2 the third one meets c = 5, n = 6
            due("t2 = " + given + " clones at 2", statesAfter(6, given, "00"), 2);
            due("t2 = " + given + " does not clone at 1", statesAfter(2, given, "000"), 2);
        }
        due("t2 = 3 does not clone at 2", statesAfter(6, 3, "00"), 1);
        // zeros and then a one: c is 2, and n - c is the count of bit 0
        due("t2 = 62 clones at 62", statesAfter(2, 62, "0".repeat(15) + "1"), 2);
        due("t2 = 63 does not clone at 62", statesAfter(2, 63, "0".repeat(15) + "1"), 1);
        due("t2 = 64 does not clone at 62", statesAfter(2, 64, "0".repeat(15) + "1"), 1);
        // the last of these bits meets n - c = 64
        for (int given : new int[] {64, 65, 66, 67, MAX}) {
            due("t2 = " + given + " clones at 64", statesAfter(3, given, "1111111101011111011101"), 3);
        }
        String one = "0".repeat(31) + "11";
        due("t2 = 63 clones at 63", statesAfter(3, 63, one), 2);
        due("t2 = 64 does not clone at 63", statesAfter(3, 64, one), 1);
        due("t2 = 65 does not clone at 63", statesAfter(3, 65, one), 1);
    }

    private static int statesAfterZeros(int t1, int zeros) {
        MarkovCloner x = new MarkovCloner(2, 32, t1, 2);
        Check.putAll(x, "0".repeat(zeros));
        return x.states(W);
    }

    private static int statesAfter(int t1, int t2, String bits) {
        MarkovCloner x = new MarkovCloner(1, 32, t1, t2);
        Check.putAll(x, bits);
        return x.states(W);
    }

    private static void valuesWithinAreKept() {
        String before1 = "";
        String before2 = "";
        for (int t = 2; t <= 64; t++) {
            String learned1 = learnedAsModel(new int[] {1, 32, t, 2});
            String learned2 = learnedAsModel(new int[] {1, 32, 2, t});
            Check.due("t1 = " + t + " differs from the value before", learned1.equals(before1), false);
            Check.due("t2 = " + t + " differs from the value before", learned2.equals(before2), false);
            before1 = learned1;
            before2 = learned2;
        }
        for (int width = 1; width <= 4; width++) {
            String before = "";
            for (int maxStates = 8; maxStates <= 32; maxStates++) {
                String learned = learnedAsModel(new int[] {width, maxStates, 2, 2});
                Check.due("maxStates = " + maxStates + " differs from the value before", learned.equals(before), false);
                before = learned;
            }
        }
    }

    /** What an object with these limits makes of messages that are rich in runs, held against the model. */
    private static String learnedAsModel(int[] limits) {
        StringBuilder all = new StringBuilder();
        MarkovCloner x = new MarkovCloner(limits[0], limits[1], limits[2], limits[3]);
        Model m = new Model(limits[0], limits[1], limits[2], limits[3]);
        int row = 20261115;
        for (int message = 0; message < 40; message++) {
            int length = 0;
            for (int run = 1; length < 80; run++) {
                row = row * 69069 + 1;
                int n = Math.min(80 - length, 1 + (row >>> 28));
                int bits = (row >>> 27 & 1) == 0 ? 0 : (row >>> 26 & 1) == 0 ? 0x5555 : row >>> 8;
                int value = run % 2 == 0 ? bits : ~bits;
                due("put", x.put(value, n), m.put(value, n));
                length += n;
            }
            Check.due("limits " + Arrays.toString(limits), Check.all(x), m.all());
            all.append(Check.writer(x)).append('\n');
            x.discard();
            m.discard();
        }
        return all.toString();
    }

    private static void bothAutomataForTheWholeLife() {
        MarkovCloner x = new MarkovCloner(9, 1, 1, 0);
        MarkovCloner same = new MarkovCloner(4, 8, 2, 2);
        String first = "";
        for (int round = 0; round < 20; round++) {
            Check.putAll(x, FULL_LENGTH);
            Check.putAll(same, FULL_LENGTH);
            String learned = Check.automaton(x, W);
            first = round == 0 ? learned : first;
            Check.due("round " + round + " as the first", learned, first);
            Check.due("round " + round + " as with the limits themselves", learned, Check.automaton(same, W));
            due("seal", x.seal(round % 3), OK);
            due("open", x.open(round % 3), OK);
            Check.takeAll(x);
            Check.due("round " + round + ", reader", Check.automaton(x, R), learned);
            due("drop", x.drop(round % 3), OK);
            due("closed", x.states(R), 4);
            same.discard();
        }
    }

    private static void newObject() {
        MarkovCloner x = archive();
        Check.due("writer", Check.writer(x), FRESH_WRITER);
        Check.due("reader", Check.reader(x), CLOSED_READER);
        Check.due("slots", Check.slots(x), FREE_SLOTS);
        due("nothing to seal", x.seal(0), NONE);
        due("nothing to take", x.take(1), NONE);
        for (int slot = 0; slot < 3; slot++) {
            due("nothing to open", x.open(slot), NONE);
            due("nothing to recode", x.recode(slot), NONE);
            due("nothing to drop", x.drop(slot), NONE);
        }
        MarkovCloner other = archive();
        Check.putAll(x, ALTERNATING);
        Check.due("another object has its own parts", now(other), now(archive()));
    }

    public static void main(String[] args) {
        Check.part("Promise 1: Constructor and start");
        Check.sentence("accepts any ints.", StartTest::anyIntsAreAccepted);
        Check.sentence("Each argument is clamped on its own: a value below the least becomes the least, a value above"
            + " the greatest becomes the greatest, any other value is kept.", StartTest::clampedOnItsOwn);
        Check.sentence("| width | 1 | 4 |", StartTest::width);
        Check.sentence("| maxStates | 8 | 32 |", StartTest::maxStates);
        Check.sentence("| t1 | 2 | 64 |", StartTest::t1);
        Check.sentence("| t2 | 2 | 64 |", StartTest::t2);
        Check.sentence("any other value is kept.", StartTest::valuesWithinAreKept);
        Check.sentence("The clamped values hold for both automata for the whole life of the object.",
            StartTest::bothAutomataForTheWholeLife);
        Check.sentence("A new object has a fresh writer, all slots free and the reader closed.", StartTest::newObject);
        Check.finish();
    }
}
