/** All promises at once: long mixed runs, the same each time, beside the model. */
public final class ModelTest {
    private static final int RUNS = 3000;
    private static final int CALLS = 512;

    private static long seed;
    private static int longestTail;
    private static int longestPeriod;

    public static void main(String[] args) {
        for (int run = 0; run < RUNS; run++) {
            seed = run;
            CellFabric x = new CellFabric();
            Model model = new Model();
            // Some runs start with a full circuit, others grow theirs bit by bit.
            int opening = run % 3 == 0 ? 0 : 40;
            for (int call = 0; call < CALLS; call++) {
                int which = call < opening ? upTo(16) % 4 : upTo(24);
                step(run + "." + call + " ", which, x, model);
            }
        }
        System.out.println("longest tail " + longestTail + ", longest period " + longestPeriod);
        Check.due("the runs have long tails", longestTail >= 8, true);
        Check.due("the runs have long periods", longestPeriod >= 16, true);
        Check.end();
    }

    private static void step(String at, int which, CellFabric x, Model model) {
        if (which < 8) {
            circuitCall(at, which, x, model);
        } else {
            deviceCall(at, which, x, model);
        }
    }

    private static void circuitCall(String at, int which, CellFabric x, Model model) {
        int signal = near(model.signals());
        switch (which) {
            case 0, 1 -> {
                int kind = near(10);
                int b = near(model.signals());
                int c = near(model.signals());
                String call = "gate(" + kind + ", " + signal + ", " + b + ", " + c + ")";
                Check.due(at + call, x.gate(kind, signal, b, c), model.gate(kind, signal, b, c));
            }
            case 2, 4 -> {
                int r = near(6);
                Check.due(at + "next(" + r + ", " + signal + ")", x.next(r, signal), model.next(r, signal));
            }
            case 3, 5 -> {
                int o = near(4);
                Check.due(at + "show(" + o + ", " + signal + ")", x.show(o, signal), model.show(o, signal));
            }
            case 6 -> Check.due(at + "drop()", x.drop(), model.drop());
            default -> Check.due(at + "signals()", x.signals(), model.signals());
        }
    }

    private static void deviceCall(String at, int which, CellFabric x, Model model) {
        switch (which) {
            case 8, 9 -> {
                int chance = near(1001);
                Check.due(at + "build(" + chance + ")", x.build(chance), model.build(chance));
            }
            case 10 -> Check.due(at + "built()", x.built(), model.built());
            case 11, 12 -> {
                int i = near(6);
                int v = near(2);
                Check.due(at + "set(" + i + ", " + v + ")", x.set(i, v), model.set(i, v));
            }
            case 13 -> Check.due(at + "inputs()", x.inputs(), model.inputs());
            case 14 -> {
                int n = near(21);
                Check.due(at + "clock(" + n + ")", x.clock(n), model.clock(n));
            }
            case 15 -> Check.due(at + "registers()", x.registers(), model.registers());
            case 16, 17 -> {
                int r = near(6);
                int v = near(2);
                Check.due(at + "load(" + r + ", " + v + ")", x.load(r, v), model.load(r, v));
            }
            case 18 -> Check.due(at + "outputs()", x.outputs(), model.outputs());
            case 19, 20, 21 -> {
                int levels = near(64);
                Check.due(at + "feed(" + levels + ")", x.feed(levels), model.feed(levels));
            }
            case 22 -> {
                int tail = model.tail();
                longestTail = Math.max(longestTail, tail);
                Check.due(at + "tail()", x.tail(), tail);
            }
            default -> {
                int period = model.period();
                longestPeriod = Math.max(longestPeriod, period);
                Check.due(at + "period()", x.period(), period);
            }
        }
    }

    // Mostly one of 0 .. count - 1, now and then one just outside or far off.
    private static int near(int count) {
        int luck = upTo(60);
        if (luck == 0) {
            return -1;
        }
        if (luck == 1) {
            return count;
        }
        if (luck == 2) {
            return upTo(2) == 0 ? Integer.MIN_VALUE : Integer.MAX_VALUE;
        }
        return upTo(count);
    }

    private static int upTo(int count) {
        seed = seed * 6364136223846793005L + 1442695040888963407L;
        return (int) ((seed >>> 33) % count);
    }
}
