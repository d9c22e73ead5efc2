/** The edges that the document names for the device (terms, promises 7 to 15), each sentence by itself. */
public final class DeviceEdgesTest {
    private static final int BAD = CellFabric.BAD;
    private static final int[] FAR = {Integer.MIN_VALUE, -32, 1 << 20, Integer.MAX_VALUE};

    public static void main(String[] args) {
        for (State s : State.values()) {
            chanceIsNot0To1000(s);
            builtOrNot(s);
            iIsNot0To5(s);
            inputLevelIsNot0Or1(s);
            nIsNot0To20(s);
            registersOfNothing(s);
            rIsNot0To5(s);
            registerLevelIsNot0Or1(s);
            outputsOfNothing(s);
            levelsAreNot0To63(s);
        }
        registersAre0WhenBuilt();
        inputsAre0AtFirst();
        buildingLeavesTheInputs();
        theCircuitChangesWithoutTheDevice();
        staysBuilt();
        bitOfEveryInput();
        bitOfEveryRegister();
        bitOfEveryOutput();
        noCycleAndTwenty();
        theCountWrapsAround();
        registersChangeAllAtOnce();
        everyLevelOfInputsAndRegisters();
        feedAnswersWhatWasBefore();
        Check.end();
    }

    // Promise 7: "false, changing nothing, when chance is not 0 .. 1000".
    private static void chanceIsNot0To1000(State s) {
        s.takes(1, "build", 0);
        s.takes(1, "build", 1000);
        s.refuses(0, "build", -1);
        s.refuses(0, "build", 1001);
        for (int far : FAR) {
            s.refuses(0, "build", far);
        }
    }

    // Promise 8: "Whether something is built."
    private static void builtOrNot(State s) {
        Pair p = s.pair();
        p.taken(s.built ? 1 : 0, "built");
        p.refused(0, "build", 1001);
        p.taken(s.built ? 1 : 0, "built");
        p.taken(1, "build", 1000);
        p.taken(1, "built");
        p.later();
    }

    // Promise 9: "false when i is not 0 .. 5", built or not.
    private static void iIsNot0To5(State s) {
        numberIsNot0To5(s, "set", true);
    }

    // Promise 9: "or v is not 0 or 1".
    private static void inputLevelIsNot0Or1(State s) {
        levelIsNot0Or1(s, "set", true);
    }

    // Promise 11: "BAD when nothing is built or n is not 0 .. 20".
    private static void nIsNot0To20(State s) {
        takesWhenBuilt(s, "clock", 0);
        takesWhenBuilt(s, "clock", 1);
        takesWhenBuilt(s, "clock", 20);
        s.refuses(BAD, "clock", -1);
        s.refuses(BAD, "clock", 21);
        for (int far : FAR) {
            s.refuses(BAD, "clock", far);
        }
    }

    // Promise 12: "BAD when nothing is built".
    private static void registersOfNothing(State s) {
        takesWhenBuilt(s, "registers");
    }

    // Promise 13: "false when nothing is built, r is not 0 .. 5".
    private static void rIsNot0To5(State s) {
        numberIsNot0To5(s, "load", s.built);
    }

    // Promise 13: "or v is not 0 or 1".
    private static void registerLevelIsNot0Or1(State s) {
        levelIsNot0Or1(s, "load", s.built);
    }

    private static void numberIsNot0To5(State s, String name, boolean taken) {
        for (int v = 0; v <= 1; v++) {
            takesIf(taken, s, name, 0, v);
            takesIf(taken, s, name, 5, v);
            s.refuses(0, name, -1, v);
            s.refuses(0, name, 6, v);
            for (int far : FAR) {
                s.refuses(0, name, far, v);
            }
        }
    }

    private static void levelIsNot0Or1(State s, String name, boolean taken) {
        for (int number = 0; number < 6; number++) {
            takesIf(taken, s, name, number, 0);
            takesIf(taken, s, name, number, 1);
            s.refuses(0, name, number, -1);
            s.refuses(0, name, number, 2);
        }
        for (int far : FAR) {
            s.refuses(0, name, 3, far);
        }
        s.refuses(0, name, 6, 2);
    }

    private static void takesIf(boolean taken, State s, String name, int number, int v) {
        if (taken) {
            s.takes(1, name, number, v);
        } else {
            s.refuses(0, name, number, v);
        }
    }

    // Promise 14: "BAD when nothing is built".
    private static void outputsOfNothing(State s) {
        takesWhenBuilt(s, "outputs");
    }

    // Promise 15: "BAD, changing nothing, when nothing is built or levels is not 0 .. 63".
    private static void levelsAreNot0To63(State s) {
        takesWhenBuilt(s, "feed", 0);
        takesWhenBuilt(s, "feed", 63);
        s.refuses(BAD, "feed", -1);
        s.refuses(BAD, "feed", 64);
        for (int far : FAR) {
            s.refuses(BAD, "feed", far);
        }
    }

    private static void takesWhenBuilt(State s, String name, int... args) {
        if (s.built) {
            s.takes(name, args);
        } else {
            s.refuses(BAD, name, args);
        }
    }

    // Terms: "the DEVICE, in which all registers are 0 then", at the first building and at each later one.
    private static void registersAre0WhenBuilt() {
        Pair p = new Pair("registers when built");
        p.taken(1, "build", 0);
        p.taken(0, "registers");
        for (int r = 0; r < 6; r++) {
            p.taken(1, "load", r, 1);
        }
        p.refused(0, "build", 1001);
        p.taken(63, "registers");
        p.taken(1, "build", 1000);
        p.taken(0, "registers");
        p.later();
    }

    // Terms: "inputs with levels 0 or 1, all 0 at first".
    private static void inputsAre0AtFirst() {
        Pair p = new Pair("first inputs");
        p.taken(0, "inputs");
        p.taken(1, "build", 0);
        p.taken(0, "inputs");
        p.later();
    }

    // Terms: "which building does not change".
    private static void buildingLeavesTheInputs() {
        Pair p = new Pair("inputs when built");
        for (int i = 0; i < 6; i++) {
            p.taken(1, "set", i, 1);
        }
        p.taken(1, "build", 0);
        p.taken(63, "inputs");
        p.taken(15, "outputs");
        p.taken(1, "set", 0, 0);
        p.refused(0, "build", -1);
        p.taken(1, "build", 1000);
        p.taken(62, "inputs");
        p.taken(0, "outputs");
        p.later();
    }

    // Terms: "what is changed in the circuit afterwards does not change the device until the next building".
    private static void theCircuitChangesWithoutTheDevice() {
        Pair p = new Pair("the device apart");
        p.taken(12, "gate", 4, 6, 6, 0);
        p.taken(1, "next", 0, 12);
        p.taken(1, "show", 0, 12);
        p.taken(1, "build", 0);
        p.taken(12, "drop");
        deviceThatFlips(p);
        p.taken(12, "gate", 2, 0, 0, 0);
        deviceThatFlips(p);
        p.taken(1, "next", 0, 6);
        deviceThatFlips(p);
        p.taken(1, "show", 0, 6);
        deviceThatFlips(p);
        p.refused(0, "build", 1001);
        deviceThatFlips(p);
        p.taken(1, "build", 0);
        p.taken(0, "outputs");
        p.taken(0, "clock", 1);
        p.taken(1, "period");
        p.later();
    }

    private static void deviceThatFlips(Pair p) {
        p.taken(1, "outputs");
        p.taken(2, "period");
        p.taken(1, "clock", 1);
        p.taken(0, "outputs");
        p.taken(0, "clock", 1);
    }

    // Promise 8: nothing is ever unbuilt, not even when the circuit is empty again.
    private static void staysBuilt() {
        Pair p = State.EMPTY_AFTER_FULL_BUILT.pair();
        p.refused(BAD, "drop");
        p.taken(1, "built");
        p.refused(0, "build", -1);
        p.taken(1, "built");
        p.later();
    }

    // Terms: "written with bit i for number i", at promises 9 and 10.
    private static void bitOfEveryInput() {
        eachBit(new Pair("bits of inputs"), "set", "inputs", 6);
    }

    // The same at promises 12 and 13.
    private static void bitOfEveryRegister() {
        Pair p = new Pair("bits of registers");
        p.taken(1, "build", 0);
        eachBit(p, "load", "registers", 6);
    }

    // The same at promise 14, with outputs that show registers.
    private static void bitOfEveryOutput() {
        Pair p = new Pair("bits of outputs");
        for (int o = 0; o < 4; o++) {
            p.taken(1, "show", o, 6 + o);
        }
        p.taken(1, "build", 0);
        eachBit(p, "load", "outputs", 4);
    }

    private static void eachBit(Pair p, String setter, String asker, int count) {
        for (int i = 0; i < count; i++) {
            p.taken(1, setter, i, 1);
            p.taken(1 << i, asker);
            p.taken(1, setter, i, 0);
            p.taken(0, asker);
        }
        for (int i = 0; i < count; i++) {
            p.taken(1, setter, i, 1);
        }
        p.taken((1 << count) - 1, asker);
        p.taken(1, setter, count - 1, 1);
        p.taken((1 << count) - 1, asker);
        p.later();
    }

    // Promise 11: "Does n cycles", at the least and the greatest n.
    private static void noCycleAndTwenty() {
        Pair p = Circuits.countThenGoOnAt(0);
        p.taken(0, "clock", 0);
        p.taken(20, "clock", 20);
        p.taken(20, "clock", 0);
        p.refused(BAD, "clock", 21);
        p.refused(BAD, "clock", -1);
        p.taken(20, "registers");
        p.taken(21, "clock", 1);
        p.later();
    }

    // All six registers at 1 count on to all at 0.
    private static void theCountWrapsAround() {
        Pair p = Circuits.countThenGoOnAt(0);
        p.taken(20, "clock", 20);
        p.taken(40, "clock", 20);
        p.taken(60, "clock", 20);
        p.taken(63, "clock", 3);
        p.taken(0, "clock", 1);
        p.taken(1, "clock", 1);
        p.taken(21, "clock", 20);
        p.later();
    }

    // Terms: "every register of the device becomes what its next was right before, all at once".
    private static void registersChangeAllAtOnce() {
        for (int turn = 1; turn < 6; turn++) {
            Pair p = new Pair("registers that turn by " + turn);
            for (int r = 0; r < 6; r++) {
                p.taken(1, "next", r, 6 + (r + turn) % 6);
            }
            p.taken(1, "build", 0);
            p.taken(1, "load", 5, 1);
            for (int cycle = 1; cycle <= 6; cycle++) {
                p.taken(1 << Math.floorMod(5 - turn * cycle, 6), "clock", 1);
            }
            p.later();
        }
    }

    // From all inputs and registers at 0 to all at 1: each register becomes the next one, turned by its input.
    private static void everyLevelOfInputsAndRegisters() {
        for (int state = 0; state < 64; state++) {
            int turned = state >> 1 | (state & 1) << 5;
            Pair lower = turnerByInputs();
            Pair upper = turnerByInputs();
            for (int levels = 0; levels < 64; levels++) {
                Pair p = levels < 32 ? lower : upper;
                for (int r = 0; r < 6; r++) {
                    p.taken(1, "load", r, state >> r & 1);
                }
                p.taken((turned ^ levels) & 15, "feed", levels);
                p.taken(turned ^ levels, "registers");
            }
        }
    }

    private static Pair turnerByInputs() {
        Pair p = new Pair("registers turned by inputs");
        for (int r = 0; r < 6; r++) {
            p.taken(12 + r, "gate", 2, r, 6 + (r + 1) % 6, 0);
            p.taken(1, "next", r, 12 + r);
        }
        for (int o = 0; o < 4; o++) {
            p.taken(1, "show", o, 12 + o);
        }
        p.taken(1, "build", 0);
        return p;
    }

    // Promise 15: "answers the outputs as they were right before that, with these inputs".
    private static void feedAnswersWhatWasBefore() {
        Pair p = new Pair("feed");
        p.taken(1, "next", 0, 5);
        p.taken(1, "show", 0, 5);
        p.taken(1, "show", 1, 6);
        p.taken(1, "build", 0);
        p.taken(13, "feed", 63);
        p.taken(1, "registers");
        p.taken(63, "inputs");
        p.refused(BAD, "feed", 64);
        p.refused(BAD, "feed", -1);
        p.taken(1, "registers");
        p.taken(63, "inputs");
        p.taken(2, "feed", 0);
        p.taken(0, "registers");
        p.taken(0, "inputs");
        p.later();
    }
}
