/** Long runs of calls, the archive beside the model: every answer and all that can be seen must agree. */
public final class ModelTest {
    private static final int[] EDGES = {
        Integer.MIN_VALUE, -32, -4, -3, -2, -1, 0, 1, 2, 3, 15, 16, 17, 31, 32, 80, 81, Integer.MAX_VALUE};

    private long seed;
    private int flushes = 0;
    private int clones = 0;
    private int halvings = 0;

    private ModelTest(long seed) {
        this.seed = seed;
    }

    // a fixed row of numbers: the same test at every run
    private int below(int bound) {
        seed = seed * 6364136223846793005L + 1442695040888963407L;
        return (int) ((seed >>> 33) % bound);
    }

    private int edgeOr(int usual) {
        return below(12) == 0 ? EDGES[below(EDGES.length)] : usual;
    }

    // runs and short periods make automata grow, flush and reach CAP
    private int piece() {
        int[] patterns = {0, -1, 0x55555555, 0x33333333, 0x24924924, 0x0F0F0F0F, 0x00010001};
        return below(3) == 0 ? below(Integer.MAX_VALUE) : patterns[below(patterns.length)];
    }

    private String step(MarkovCloner x, Model m) {
        int slot = edgeOr(below(3));
        int n = edgeOr(1 + below(16));
        switch (below(16)) {
            case 0:
                return agree("seal(" + slot + ")", x.seal(slot), m.seal(slot));
            case 1:
                return agree("open(" + slot + ")", x.open(slot), m.open(slot));
            case 2:
                return agree("recode(" + slot + ")", x.recode(slot), m.recode(slot));
            case 3:
                if (below(4) == 0) {
                    return agree("drop(" + slot + ")", x.drop(slot), m.drop(slot));
                }
                return agree("open(" + slot + ")", x.open(slot), m.open(slot));
            case 4:
                if (below(4) == 0) {
                    x.discard();
                    m.discard();
                    return "discard()";
                }
                return agree("seal(" + slot + ")", x.seal(slot), m.seal(slot));
            case 5: case 6: case 7: case 8: case 9:
                return agree("take(" + n + ")", x.take(n), m.take(n));
            default:
                int value = piece();
                return agree("put(" + value + ", " + n + ")", x.put(value, n), m.put(value, n));
        }
    }

    private static String agree(String call, int got, int want) {
        Check.due(call, got, want);
        return call;
    }

    private void run(int calls) {
        int width = edgeOr(1 + below(4));
        int maxStates = edgeOr(below(2) == 0 ? 8 : 8 + below(25));
        int t1 = edgeOr(below(3) == 0 ? 2 + below(63) : 2 + below(6));
        int t2 = edgeOr(below(3) == 0 ? 2 + below(63) : 2 + below(6));
        MarkovCloner x = new MarkovCloner(width, maxStates, t1, t2);
        Model m = new Model(width, maxStates, t1, t2);
        String start = "new MarkovCloner(" + width + ", " + maxStates + ", " + t1 + ", " + t2 + ")";
        Check.due(start, Check.all(x), m.all());
        for (int i = 0; i < calls && Check.allRight(); i++) {
            String call = step(x, m);
            Check.due("after " + start + " .. " + call + ": the whole", Check.all(x), m.all());
        }
        for (int slot = 0; slot < 3; slot++) {
            Check.due("open at the end", x.open(slot), m.open(slot));
            if (!m.slot(slot).isEmpty()) {
                Check.due(start + ": message of slot " + slot, Check.takeAll(x), m.slot(slot));
            }
        }
        m.discard();
        m.drop(0);
        m.drop(1);
        m.drop(2);
        flushes += m.flushesSeen;
        clones += m.clonesSeen;
        halvings += m.halvingsSeen;
    }

    public static void main(String[] args) {
        ModelTest test = new ModelTest(20261115L);
        for (int i = 0; i < 1500 && Check.allRight(); i++) {
            test.run(150);
        }
        System.out.println(test.clones + " clones, " + test.flushes + " flushes, " + test.halvings + " halvings");
        Check.due("runs reached clones, flushes and halvings",
            test.clones > 1000 && test.flushes > 100 && test.halvings > 100, true);
        Check.finish();
    }
}
