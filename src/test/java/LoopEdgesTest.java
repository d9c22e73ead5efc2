/** The edges that the document names for tail and period (promises 16 and 17), each sentence by itself. */
public final class LoopEdgesTest {
    private static final int BAD = CellFabric.BAD;

    public static void main(String[] args) {
        for (State s : State.values()) {
            nothingIsBuilt(s);
            theDeviceStaysAsItIs(s);
        }
        everyTailAndPeriod();
        tailShrinksToNone();
        fromEveryStateOfTheRegisters();
        withTheInputsAsTheyAre();
        ofTheDeviceNotTheCircuit();
        Check.end();
    }

    // Promises 16 and 17: "BAD when nothing is built".
    private static void nothingIsBuilt(State s) {
        if (s.built) {
            s.takes("tail");
            s.takes("period");
        } else {
            s.refuses(BAD, "tail");
            s.refuses(BAD, "period");
        }
        Pair p = s.pair();
        p.refused(0, "build", 1001);
        p.both("tail");
        p.both("period");
        p.taken(1, "build", 0);
        p.both("tail");
        p.both("period");
    }

    // Promises 16 and 17: "the device stays as it is", however often it is asked.
    private static void theDeviceStaysAsItIs(State s) {
        Pair p = s.pair();
        int tail = p.both("tail");
        int period = p.both("period");
        for (int again = 0; again < 3; again++) {
            p.taken(tail, "tail");
            p.taken(period, "period");
        }
        p.later();
    }

    // From no cycle and a loop of all 64 states to 63 cycles and a loop of one state.
    private static void everyTailAndPeriod() {
        for (int tail = 0; tail < 64; tail++) {
            Pair p = Circuits.countThenGoOnAt(tail);
            p.taken(tail, "tail");
            p.taken(64 - tail, "period");
            p.taken(0, "registers");
            p.later();
        }
    }

    // Promise 16: "after which the registers are for the first time as they will be again later".
    private static void tailShrinksToNone() {
        for (int tail = 0; tail < 64; tail += 9) {
            Pair p = Circuits.countThenGoOnAt(tail);
            for (int cycle = 1; cycle <= 70; cycle++) {
                p.both("clock", 1);
                p.taken(Math.max(0, tail - cycle), "tail");
                p.taken(64 - tail, "period");
            }
        }
    }

    // All 64 states: each is below the loop by as many cycles as it counts below 40.
    private static void fromEveryStateOfTheRegisters() {
        Pair p = Circuits.countThenGoOnAt(40);
        for (int state = 0; state < 64; state++) {
            p.taken(state, "clock", state == 0 ? 0 : 1);
            p.taken(Math.max(0, 40 - state), "tail");
        }
        p.taken(40, "clock", 1);
        p.taken(0, "tail");
        p.taken(24, "period");
    }

    // Promise 16: "with the inputs as they are", all 0 and all 1.
    private static void withTheInputsAsTheyAre() {
        Pair p = new Pair("inputs taken over");
        for (int r = 0; r < 6; r++) {
            p.taken(1, "next", r, r);
        }
        p.taken(1, "build", 0);
        p.taken(0, "tail");
        p.taken(1, "period");
        for (int i = 0; i < 6; i++) {
            p.taken(1, "set", i, 1);
            p.taken(1, "tail");
            p.taken(1, "period");
        }
        p.taken(63, "clock", 1);
        p.taken(0, "tail");
        p.taken(1, "period");
        p.later();
    }

    // Terms: a change in the circuit does not change the device, so neither its tail nor its period.
    private static void ofTheDeviceNotTheCircuit() {
        Pair p = Circuits.countThenGoOnAt(5);
        for (int r = 0; r < 6; r++) {
            p.taken(1, "next", r, 6 + r);
        }
        while (p.signals() > 12) {
            p.both("drop");
        }
        p.taken(5, "tail");
        p.taken(59, "period");
        p.taken(1, "build", 0);
        p.taken(0, "tail");
        p.taken(1, "period");
        p.later();
    }
}
