/** Promise 18: a refused call changes nothing, whatever else was called and refused before it. */
public final class RefusalTest {
    private static final int BAD = CellFabric.BAD;

    public static void main(String[] args) {
        for (State s : State.values()) {
            allRefusalsInARow(s);
        }
        refusalsBetweenAllElse();
        Check.end();
    }

    private static void allRefusalsInARow(State s) {
        Pair p = s.pair();
        refuseAll(p, s.built);
        refuseAll(p, s.built);
        p.later();
    }

    // A run that ends with every part of the object in use, with all refusals after each of its steps.
    private static void refusalsBetweenAllElse() {
        String[] names = {"set", "gate", "gate", "next", "show", "build", "load", "feed", "clock", "drop"};
        int[][] args = {{2, 1}, {3, 2, 6, 0}, {9, 12, 7, 5}, {0, 13}, {3, 13}, {1000}, {1, 1}, {33}, {20}, {}};
        for (int steps = 0; steps <= names.length; steps++) {
            Pair p = new Pair("refusals after " + steps + " steps");
            boolean built = false;
            for (int step = 0; step < steps; step++) {
                p.both(names[step], args[step]);
                built |= names[step].equals("build");
            }
            refuseAll(p, built);
            p.later();
        }
    }

    private static void refuseAll(Pair p, boolean built) {
        refuseInTheCircuit(p);
        p.refused(0, "build", -1);
        p.refused(0, "build", 1001);
        p.refused(0, "set", -1, 1);
        p.refused(0, "set", 6, 1);
        p.refused(0, "set", 0, -1);
        p.refused(0, "set", 5, 2);
        refuseInTheDevice(p);
        if (!built) {
            refuseOfNothing(p);
        }
    }

    private static void refuseInTheCircuit(Pair p) {
        int none = p.signals();
        p.refused(BAD, "gate", -1, 0, 0, 0);
        p.refused(BAD, "gate", 10, 0, 0, 0);
        p.refused(BAD, "gate", 0, none, 0, 0);
        p.refused(BAD, "gate", 6, 0, -1, 0);
        p.refused(BAD, "gate", 7, 0, 0, none);
        if (none == 32) {
            p.refused(CellFabric.FULL, "gate", 4, 0, 6, 31);
        }
        if (none == 12) {
            p.refused(BAD, "drop");
        }
        p.refused(0, "next", -1, 5);
        p.refused(0, "next", 6, 5);
        p.refused(0, "next", 0, -1);
        p.refused(0, "next", 5, none);
        p.refused(0, "show", -1, 5);
        p.refused(0, "show", 4, 5);
        p.refused(0, "show", 0, -1);
        p.refused(0, "show", 3, none);
    }

    private static void refuseInTheDevice(Pair p) {
        p.refused(BAD, "clock", -1);
        p.refused(BAD, "clock", 21);
        p.refused(0, "load", -1, 1);
        p.refused(0, "load", 6, 1);
        p.refused(0, "load", 0, -1);
        p.refused(0, "load", 5, 2);
        p.refused(BAD, "feed", -1);
        p.refused(BAD, "feed", 64);
    }

    private static void refuseOfNothing(Pair p) {
        p.refused(BAD, "clock", 0);
        p.refused(BAD, "clock", 20);
        p.refused(BAD, "registers");
        p.refused(0, "load", 0, 1);
        p.refused(0, "load", 5, 0);
        p.refused(BAD, "outputs");
        p.refused(BAD, "feed", 0);
        p.refused(BAD, "feed", 63);
        p.refused(BAD, "tail");
        p.refused(BAD, "period");
    }
}
