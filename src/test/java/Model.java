import java.util.ArrayList;
import java.util.List;

/** The document in its plainest words: messages are kept as text, and nothing is coded. */
final class Model {
    private static final class State {
        int[] next = new int[2];
        int[] count = new int[2];
    }

    static final class Automaton {
        private final int width;
        private final int maxStates;
        private final int t1;
        private final int t2;
        List<State> states;
        int current;
        int flushes;
        int clones;
        int halvings;

        Automaton(int width, int maxStates, int t1, int t2) {
            this.width = width;
            this.maxStates = maxStates;
            this.t1 = t1;
            this.t2 = t2;
            shape();
        }

        private void shape() {
            states = new ArrayList<>();
            current = 0;
            for (int s = 0; s < width; s++) {
                State state = new State();
                state.next = new int[] {(s + 1) % width, (s + 1) % width};
                state.count = new int[] {2, 2};
                states.add(state);
            }
        }

        void learn(int b) {
            State s = states.get(current);
            State t = states.get(s.next[b]);
            int c = s.count[b];
            int n = t.count[0] + t.count[1];
            if (c >= t1 && n - c >= t2) {
                if (states.size() == maxStates) {
                    shape();
                    flushes++;
                    return;
                }
                State u = new State();
                int[] before = t.count.clone();
                u.next = t.next.clone();
                for (int x = 0; x < 2; x++) {
                    int q = before[x] * c / n;
                    u.count[x] = Math.max(1, q);
                    t.count[x] = Math.max(1, before[x] - q);
                }
                s.next[b] = states.size();
                states.add(u);
                clones++;
            }
            s.count[b] += 4;
            if (s.count[0] + s.count[1] > 128) {
                s.count[0] = (s.count[0] + 1) / 2;
                s.count[1] = (s.count[1] + 1) / 2;
                halvings++;
            }
            current = s.next[b];
        }
    }

    private final int[] limits;
    private final Automaton[] automata = new Automaton[2];
    private final String[] slots = {"", "", ""};
    private String written = "";
    private int open = -1;
    private int read = 0;
    int flushesSeen = 0;
    int clonesSeen = 0;
    int halvingsSeen = 0;

    Model(int width, int maxStates, int t1, int t2) {
        limits = new int[] {
            Math.min(4, Math.max(1, width)), Math.min(32, Math.max(8, maxStates)),
            Math.min(64, Math.max(2, t1)), Math.min(64, Math.max(2, t2))};
        discard();
        fresh(1);
    }

    private void fresh(int side) {
        Automaton old = automata[side];
        if (old != null) {
            flushesSeen += old.flushes;
            clonesSeen += old.clones;
            halvingsSeen += old.halvings;
        }
        automata[side] = new Automaton(limits[0], limits[1], limits[2], limits[3]);
    }

    private void write(String bits) {
        written += bits;
        for (char bit : bits.toCharArray()) {
            automata[0].learn(bit - '0');
        }
    }

    private static boolean wrongSlot(int slot) {
        return slot < 0 || slot > 2;
    }

    int put(int value, int n) {
        if (n < 1 || n > 16) {
            return -1;
        }
        if (written.length() + n > 80) {
            return -2;
        }
        String all = String.format("%32s", Integer.toBinaryString(value)).replace(' ', '0');
        write(all.substring(32 - n));
        return 0;
    }

    int seal(int slot) {
        if (wrongSlot(slot)) {
            return -1;
        }
        if (!slots[slot].isEmpty()) {
            return -3;
        }
        if (written.isEmpty()) {
            return -4;
        }
        slots[slot] = written;
        discard();
        return 0;
    }

    void discard() {
        written = "";
        fresh(0);
    }

    int open(int slot) {
        if (wrongSlot(slot)) {
            return -1;
        }
        if (slots[slot].isEmpty()) {
            return -4;
        }
        open = slot;
        read = 0;
        fresh(1);
        return 0;
    }

    int take(int n) {
        if (n < 1 || n > 16) {
            return -1;
        }
        if (open < 0) {
            return -4;
        }
        if (read + n > slots[open].length()) {
            return -5;
        }
        String bits = slots[open].substring(read, read + n);
        for (char bit : bits.toCharArray()) {
            automata[1].learn(bit - '0');
        }
        read += n;
        return Integer.parseInt(bits, 2);
    }

    int recode(int slot) {
        if (wrongSlot(slot)) {
            return -1;
        }
        if (slots[slot].isEmpty()) {
            return -4;
        }
        if (written.length() + slots[slot].length() > 80) {
            return -2;
        }
        write(slots[slot]);
        return 0;
    }

    int drop(int slot) {
        if (wrongSlot(slot)) {
            return -1;
        }
        if (slots[slot].isEmpty()) {
            return -4;
        }
        slots[slot] = "";
        if (open == slot) {
            open = -1;
            read = 0;
            fresh(1);
        }
        return 0;
    }

    private int compare(int a, int b) {
        if (slots[a].isEmpty() || slots[b].isEmpty()) {
            return -4;
        }
        // text order is the order of the document: first difference, then length
        int order = slots[a].compareTo(slots[b]);
        return order == 0 ? 0 : order < 0 ? 1 : 2;
    }

    String slot(int slot) {
        return slots[slot];
    }

    private String automaton(int side) {
        Automaton a = automata[side];
        StringBuilder text = new StringBuilder();
        text.append(a.states.size()).append(" at ").append(a.current).append(" flushes ").append(a.flushes);
        for (State s : a.states) {
            text.append(" | ").append(s.next[0]).append(' ').append(s.next[1]);
            text.append(' ').append(s.count[0]).append(' ').append(s.count[1]);
        }
        return text.toString();
    }

    /** The same text as Check.all. */
    String all() {
        StringBuilder text = new StringBuilder();
        text.append("wrote ").append(written.length()).append(": ").append(automaton(0)).append('\n');
        text.append("slot ").append(open < 0 ? -4 : open).append(" read ").append(read).append(": ");
        text.append(automaton(1)).append("\nslots");
        for (int a = 0; a < 3; a++) {
            text.append(' ').append(slots[a].length()).append(':');
            for (int b = 0; b < 3; b++) {
                text.append(compare(a, b)).append(',');
            }
        }
        return text.toString();
    }
}
