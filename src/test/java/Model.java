import java.util.ArrayList;
import java.util.List;

/** The document once more, in other words: lists, and signals worked out from their gates when asked. */
final class Model {
    private List<int[]> gates = new ArrayList<>();
    private int[] nexts = {6, 7, 8, 9, 10, 11};
    private int[] shows = new int[4];
    private List<int[]> builtGates = null;
    private int[] builtNexts;
    private int[] builtShows;
    private final boolean[] in = new boolean[6];
    private boolean[] reg = new boolean[6];

    int gate(int kind, int a, int b, int c) {
        boolean three = kind == 7 || kind == 8 || kind == 9;
        if (kind < 0 || 9 < kind || none(a) || none(b) || three && none(c)) {
            return -1;
        }
        if (gates.size() == 20) {
            return -2;
        }
        gates.add(new int[] {kind, a, b, c});
        return signals() - 1;
    }

    int drop() {
        if (gates.isEmpty()) {
            return -1;
        }
        gates.remove(gates.size() - 1);
        for (int r = 0; r < 6; r++) {
            nexts[r] = none(nexts[r]) ? r + 6 : nexts[r];
        }
        for (int o = 0; o < 4; o++) {
            shows[o] = none(shows[o]) ? 0 : shows[o];
        }
        return signals();
    }

    int signals() {
        return 12 + gates.size();
    }

    boolean next(int r, int signal) {
        boolean fine = 0 <= r && r <= 5 && !none(signal);
        if (fine) {
            nexts[r] = signal;
        }
        return fine;
    }

    boolean show(int o, int signal) {
        boolean fine = 0 <= o && o <= 3 && !none(signal);
        if (fine) {
            shows[o] = signal;
        }
        return fine;
    }

    boolean build(int chance) {
        if (chance < 0 || 1000 < chance) {
            return false;
        }
        builtGates = new ArrayList<>(gates);
        builtNexts = nexts.clone();
        builtShows = shows.clone();
        reg = new boolean[6];
        return true;
    }

    boolean built() {
        return builtGates != null;
    }

    boolean set(int i, int v) {
        boolean fine = 0 <= i && i <= 5 && 0 <= v && v <= 1;
        if (fine) {
            in[i] = v == 1;
        }
        return fine;
    }

    int inputs() {
        return number(in);
    }

    int clock(int n) {
        if (!built() || n < 0 || 20 < n) {
            return -1;
        }
        for (int done = 0; done < n; done++) {
            reg = after(reg);
        }
        return number(reg);
    }

    int registers() {
        return built() ? number(reg) : -1;
    }

    boolean load(int r, int v) {
        boolean fine = built() && 0 <= r && r <= 5 && 0 <= v && v <= 1;
        if (fine) {
            reg[r] = v == 1;
        }
        return fine;
    }

    int outputs() {
        if (!built()) {
            return -1;
        }
        boolean[] out = new boolean[4];
        for (int o = 0; o < 4; o++) {
            out[o] = level(builtShows[o], reg);
        }
        return number(out);
    }

    int feed(int levels) {
        if (!built() || levels < 0 || 63 < levels) {
            return -1;
        }
        for (int i = 0; i < 6; i++) {
            in[i] = (levels / (1 << i)) % 2 == 1;
        }
        int before = outputs();
        reg = after(reg);
        return before;
    }

    int tail() {
        return built() ? tailAndPeriod()[0] : -1;
    }

    int period() {
        return built() ? tailAndPeriod()[1] : -1;
    }

    private int[] tailAndPeriod() {
        List<Integer> met = new ArrayList<>();
        boolean[] now = reg;
        while (!met.contains(number(now))) {
            met.add(number(now));
            now = after(now);
        }
        int tail = met.indexOf(number(now));
        return new int[] {tail, met.size() - tail};
    }

    private boolean none(int signal) {
        return signal < 0 || signal >= signals();
    }

    private boolean[] after(boolean[] now) {
        boolean[] then = new boolean[6];
        for (int r = 0; r < 6; r++) {
            then[r] = level(builtNexts[r], now);
        }
        return then;
    }

    private boolean level(int signal, boolean[] now) {
        boolean[] all = new boolean[12 + builtGates.size()];
        System.arraycopy(in, 0, all, 0, 6);
        System.arraycopy(now, 0, all, 6, 6);
        for (int s = 12; s <= signal; s++) {
            int[] g = builtGates.get(s - 12);
            boolean c = g[0] >= 7 && all[g[3]];
            all[s] = level(g[0], all[g[1]], all[g[2]], c);
        }
        return all[signal];
    }

    private static boolean level(int kind, boolean a, boolean b, boolean c) {
        int ones = (a ? 1 : 0) + (b ? 1 : 0) + (c ? 1 : 0);
        return switch (kind) {
            case 0 -> a && b;
            case 1 -> !(!a && !b);
            case 2 -> a != b;
            case 3 -> !(a && b);
            case 4 -> !a && !b;
            case 5 -> a == b;
            case 6 -> !(a && !b);
            case 7 -> a ? b : c;
            case 8 -> ones >= 2;
            default -> ones == 1 || ones == 3;
        };
    }

    private static int number(boolean[] bits) {
        int sum = 0;
        for (int i = bits.length - 1; i >= 0; i--) {
            sum = 2 * sum + (bits[i] ? 1 : 0);
        }
        return sum;
    }
}
