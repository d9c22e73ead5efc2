/** The edges that the document names for the circuit (terms, promises 1 to 6), each sentence by itself. */
public final class CircuitEdgesTest {
    private static final int BAD = CellFabric.BAD;
    private static final int FULL = CellFabric.FULL;
    private static final int[] FAR = {Integer.MIN_VALUE, -32, 64, Integer.MAX_VALUE};

    public static void main(String[] args) {
        for (State s : State.values()) {
            kindIsNot0To9(s);
            aIsNoSignal(s);
            bIsNoSignal(s);
            cIsNoSignalForKinds7To9(s);
            cIsFreeForKinds0To6(s);
            badComesBeforeFull(s);
            theNextNumber(s);
            thereIsNoGateToDrop(s);
            theNumberOfSignals(s);
            rIsNot0To5(s);
            nextIsNoSignal(s);
            oIsNot0To3(s);
            shownIsNoSignal(s);
        }
        aNewObject();
        signalsOfEachRange();
        everyKindAtEveryMix();
        nextIsAtFirstItself();
        outputIsAtFirstSignal0();
        twentyGatesAndNoMore();
        oneDropMakesRoomForOne();
        dropsDownToNone();
        dropOfANext();
        dropOfAShownSignal();
        dropLeavesTheGateBelow();
        aDroppedGateIsNoSignal();
        Check.end();
    }

    // Promise 2: "BAD when kind is not 0 .. 9".
    private static void kindIsNot0To9(State s) {
        gateIsGood(s, 0, 0, 0, 0);
        gateIsGood(s, 9, 0, 0, 0);
        s.refuses(BAD, "gate", -1, 0, 0, 0);
        s.refuses(BAD, "gate", 10, 0, 0, 0);
        for (int far : FAR) {
            s.refuses(BAD, "gate", far, 0, 0, 0);
        }
    }

    // Promise 2: "or a [..] is no signal"; terms: "with lower numbers", so not the gate's own number.
    private static void aIsNoSignal(State s) {
        for (int kind = 0; kind <= 9; kind++) {
            gateIsGood(s, kind, 0, 1, 2);
            gateIsGood(s, kind, s.signals - 1, 1, 2);
            s.refuses(BAD, "gate", kind, -1, 1, 2);
            s.refuses(BAD, "gate", kind, s.signals, 1, 2);
        }
        for (int far : FAR) {
            s.refuses(BAD, "gate", 0, far, 1, 2);
        }
    }

    // Promise 2: "or [..] b [..] is no signal".
    private static void bIsNoSignal(State s) {
        for (int kind = 0; kind <= 9; kind++) {
            gateIsGood(s, kind, 1, 0, 2);
            gateIsGood(s, kind, 1, s.signals - 1, 2);
            s.refuses(BAD, "gate", kind, 1, -1, 2);
            s.refuses(BAD, "gate", kind, 1, s.signals, 2);
        }
        for (int far : FAR) {
            s.refuses(BAD, "gate", 0, 1, far, 2);
        }
    }

    // Promise 2: "or (for kinds 7 to 9) c is no signal".
    private static void cIsNoSignalForKinds7To9(State s) {
        for (int kind = 7; kind <= 9; kind++) {
            gateIsGood(s, kind, 1, 2, 0);
            gateIsGood(s, kind, 1, 2, s.signals - 1);
            s.refuses(BAD, "gate", kind, 1, 2, -1);
            s.refuses(BAD, "gate", kind, 1, 2, s.signals);
            for (int far : FAR) {
                s.refuses(BAD, "gate", kind, 1, 2, far);
            }
        }
    }

    // The other side of that sentence: kind 6 is the last that takes any c.
    private static void cIsFreeForKinds0To6(State s) {
        for (int kind = 0; kind <= 6; kind++) {
            gateIsGood(s, kind, 1, 2, -1);
            gateIsGood(s, kind, 1, 2, s.signals);
            for (int far : FAR) {
                gateIsGood(s, kind, 1, 2, far);
            }
        }
    }

    // Promise 2: "Tested in this order: BAD [..]; FULL when there are twenty gates."
    private static void badComesBeforeFull(State s) {
        s.refuses(BAD, "gate", 10, s.signals, s.signals, s.signals);
        s.refuses(BAD, "gate", -1, 31, 31, 31);
        s.refuses(BAD, "gate", 0, 32, 31, 31);
        s.refuses(BAD, "gate", 0, 31, 32, 31);
        s.refuses(BAD, "gate", 7, 31, 31, 32);
        if (s.full()) {
            s.refuses(FULL, "gate", 7, 31, 31, 31);
            s.refuses(FULL, "gate", 6, 31, 31, 32);
        }
    }

    // Promise 2: "answers its signal's number, the next one".
    private static void theNextNumber(State s) {
        Pair p = s.pair();
        for (int number = s.signals; number < 32; number++) {
            p.taken(number, "gate", number % 10, number - 1, number - 2, number - 3);
            p.taken(number + 1, "signals");
        }
        p.refused(FULL, "gate", 0, 0, 0, 0);
        p.later();
    }

    // A gate with nothing wrong in it: it is added, unless there are twenty.
    private static void gateIsGood(State s, int kind, int a, int b, int c) {
        if (s.full()) {
            s.refuses(FULL, "gate", kind, a, b, c);
        } else {
            s.takes(s.signals, "gate", kind, a, b, c);
        }
    }

    // Promise 3: "BAD when there is no gate", and else "how many signals are left".
    private static void thereIsNoGateToDrop(State s) {
        if (s.empty()) {
            s.refuses(BAD, "drop");
        } else {
            s.takes(s.signals - 1, "drop");
        }
    }

    // Promise 4: "The number of signals.", from twelve at the empty circuit to 32 at the full one.
    private static void theNumberOfSignals(State s) {
        s.takes(s.signals, "signals");
    }

    // Promise 5: "false, changing nothing, when r is not 0 .. 5".
    private static void rIsNot0To5(State s) {
        numberIsNot0To(5, s, "next");
    }

    // Promise 5: "or there is no such signal".
    private static void nextIsNoSignal(State s) {
        signalIsNone(5, s, "next");
    }

    // Promise 6: "false, changing nothing, when o is not 0 .. 3".
    private static void oIsNot0To3(State s) {
        numberIsNot0To(3, s, "show");
    }

    // Promise 6: "or there is no such signal".
    private static void shownIsNoSignal(State s) {
        signalIsNone(3, s, "show");
    }

    private static void numberIsNot0To(int last, State s, String name) {
        s.takes(1, name, 0, 3);
        s.takes(1, name, last, 3);
        s.refuses(0, name, -1, 3);
        s.refuses(0, name, last + 1, 3);
        for (int far : FAR) {
            s.refuses(0, name, far, 3);
        }
    }

    private static void signalIsNone(int last, State s, String name) {
        for (int number = 0; number <= last; number++) {
            s.takes(1, name, number, 0);
            s.takes(1, name, number, s.signals - 1);
            s.refuses(0, name, number, -1);
            s.refuses(0, name, number, s.signals);
        }
        for (int far : FAR) {
            s.refuses(0, name, 2, far);
        }
        s.refuses(0, name, last + 1, s.signals);
    }

    // Promise 1: "No gates; nothing is built."
    private static void aNewObject() {
        Pair p = State.NEW.pair();
        p.taken(12, "signals");
        p.taken(0, "built");
        p.refused(BAD, "drop");
        p.refused(BAD, "registers");
        p.later();
    }

    // Terms: "0 .. 5 are the INPUTS, 6 .. 11 the REGISTERS 0 .. 5", and 12 is the first gate.
    private static void signalsOfEachRange() {
        for (int signal = 0; signal < 12; signal++) {
            Pair p = new Pair("signal " + signal);
            p.taken(1, "show", 3, signal);
            p.taken(1, "build", 0);
            for (int i = 0; i < 6; i++) {
                p.taken(1, "set", i, 1);
                int first = i == 0 ? 7 : 0;
                p.taken(first | (signal == i ? 8 : 0), "outputs");
                p.taken(1, "set", i, 0);
            }
            for (int r = 0; r < 6; r++) {
                p.taken(1, "load", r, 1);
                p.taken(signal == 6 + r ? 8 : 0, "outputs");
                p.taken(1, "load", r, 0);
            }
        }
        Pair p = new Pair("signal 12");
        p.refused(0, "show", 3, 12);
        p.taken(12, "gate", 4, 0, 0, 0);
        p.taken(1, "show", 3, 12);
        p.taken(1, "build", 0);
        p.taken(8, "outputs");
    }

    // Terms: the ten kinds, where a, b and c are read as bits 0, 1 and 2 of the mix.
    private static void everyKindAtEveryMix() {
        int[] levels = {0b10001000, 0b11101110, 0b01100110, 0b01110111, 0b00010001,
            0b10011001, 0b11011101, 0b11011000, 0b11101000, 0b10010110};
        for (int kind = 0; kind <= 9; kind++) {
            Pair p = new Pair("kind " + kind);
            p.taken(12, "gate", kind, 0, 1, 2);
            p.taken(1, "show", 0, 12);
            p.taken(1, "show", 1, 3);
            p.taken(1, "show", 2, 3);
            p.taken(1, "show", 3, 3);
            p.taken(1, "build", 0);
            for (int mix = 0; mix < 8; mix++) {
                p.taken(levels[kind] >> mix & 1, "feed", mix);
            }
        }
    }

    // Terms: "Every register has a signal as its NEXT, at first itself".
    private static void nextIsAtFirstItself() {
        for (int r = 0; r < 6; r++) {
            Pair p = new Pair("first next of " + r);
            p.taken(1, "build", 0);
            p.taken(1, "load", r, 1);
            p.taken(1 << r, "clock", 1);
            p.taken(1 << r, "clock", 20);
            p.later();
        }
    }

    // Terms: "every OUTPUT 0 .. 3 shows a signal, at first signal 0".
    private static void outputIsAtFirstSignal0() {
        Pair p = new Pair("first outputs");
        p.taken(1, "build", 0);
        p.taken(0, "feed", 62);
        p.taken(15, "feed", 1);
        p.later();
    }

    // Terms: "12, 13, .. (at most twenty) GATES".
    private static void twentyGatesAndNoMore() {
        Pair p = new Pair("twenty gates");
        for (int g = 0; g < 20; g++) {
            p.taken(12 + g, "gate", 3, 11 + g, 11 + g, 0);
        }
        p.refused(FULL, "gate", 3, 31, 31, 0);
        p.taken(32, "signals");
        p.taken(1, "show", 0, 31);
        p.taken(1, "show", 1, 30);
        p.taken(1, "build", 0);
        p.taken(2, "outputs");
        p.taken(1, "load", 5, 1);
        p.taken(1, "outputs");
        p.later();
    }

    private static void oneDropMakesRoomForOne() {
        Pair p = State.FULL_BUILT.pair();
        p.taken(31, "drop");
        p.taken(31, "gate", 5, 30, 12, 0);
        p.refused(FULL, "gate", 5, 30, 12, 0);
        p.later();
    }

    // Promise 3: from the full circuit to the empty one, and no further.
    private static void dropsDownToNone() {
        Pair p = State.FULL.pair();
        for (int left = 31; left >= 12; left--) {
            p.taken(left, "drop");
            p.taken(left, "signals");
        }
        p.refused(BAD, "drop");
        p.refused(BAD, "drop");
        p.taken(12, "signals");
        p.taken(12, "gate", 0, 0, 0, 0);
        p.later();
    }

    // Promise 3: "registers whose next it was have themselves as their next then".
    private static void dropOfANext() {
        for (int last = 12; last <= 31; last += 19) {
            Pair p = onesUpTo(last);
            for (int r = 0; r < 6; r++) {
                p.taken(1, "next", r, last);
            }
            p.taken(last, "drop");
            p.taken(1, "build", 0);
            for (int r = 0; r < 6; r++) {
                p.taken(1, "load", r, 1);
                p.taken(1 << r, "clock", 1);
                p.taken(1, "load", r, 0);
                p.taken(0, "clock", 1);
            }
            p.later();
        }
    }

    // Promise 3: "and outputs that showed it show signal 0".
    private static void dropOfAShownSignal() {
        for (int last = 12; last <= 31; last += 19) {
            Pair p = onesUpTo(last);
            for (int o = 0; o < 4; o++) {
                p.taken(1, "show", o, last);
            }
            p.taken(last, "drop");
            p.taken(1, "build", 0);
            p.taken(0, "feed", 62);
            p.taken(15, "feed", 1);
            p.later();
        }
    }

    // What has the gate below the dropped one, or another signal, keeps it.
    private static void dropLeavesTheGateBelow() {
        Pair p = onesUpTo(31);
        p.taken(1, "next", 0, 30);
        p.taken(1, "next", 5, 11);
        p.taken(1, "next", 4, 5);
        p.taken(1, "show", 0, 30);
        p.taken(1, "show", 3, 5);
        p.taken(31, "drop");
        p.taken(1, "build", 0);
        p.taken(9, "feed", 32);
        p.taken(17, "registers");
        p.taken(1, "load", 5, 1);
        p.taken(1, "feed", 0);
        p.taken(33, "registers");
        p.later();
    }

    // Promises 2, 5 and 6 after promise 3: the number is free again, and nothing may name it.
    private static void aDroppedGateIsNoSignal() {
        Pair p = onesUpTo(13);
        p.taken(1, "next", 2, 13);
        p.taken(1, "show", 2, 13);
        p.taken(13, "drop");
        p.refused(0, "next", 2, 13);
        p.refused(0, "show", 2, 13);
        p.refused(BAD, "gate", 0, 13, 0, 0);
        p.refused(BAD, "gate", 0, 0, 13, 0);
        p.refused(BAD, "gate", 8, 0, 0, 13);
        p.taken(13, "gate", 4, 0, 0, 0);
        p.taken(1, "build", 0);
        p.taken(0, "outputs");
        p.taken(0, "clock", 1);
        p.later();
    }

    // Gates that are 1 whatever the inputs and registers are.
    private static Pair onesUpTo(int last) {
        Pair p = new Pair("gates up to " + last);
        for (int s = 12; s <= last; s++) {
            p.taken(s, "gate", 5, s - 1, s - 1, 0);
        }
        return p;
    }
}
