/** Promises 1 to 6: a new object, gate, drop, signals, next, show. */
public final class CircuitTest {
    private static final int[] WRONG = {Integer.MIN_VALUE, -1, 1 << 20, Integer.MAX_VALUE};

    // The gates' levels for a, b, c = 000, 100, 010, 110, 001, 101, 011, 111, read off the document.
    private static final String[] LEVELS = {
        "00010001", "01110111", "01100110", "11101110", "10001000",
        "10011001", "10111011", "00011011", "00010111", "01101001",
    };

    public static void main(String[] args) {
        newObject();
        everyKind();
        gateOfGates();
        gateRefusals();
        gateThirdIsFree();
        gateFull();
        drop();
        dropKeepsOthers();
        dropThenGate();
        next();
        show();
        Check.end();
    }

    private static void newObject() {
        CellFabric x = new CellFabric();
        Check.due("new: signals()", x.signals(), 12);
        Check.due("new: built()", x.built(), false);
        Check.due("new: inputs()", x.inputs(), 0);
        Check.due("new: registers()", x.registers(), CellFabric.BAD);
        Check.due("new: outputs()", x.outputs(), CellFabric.BAD);
        Check.due("new: drop()", x.drop(), CellFabric.BAD);
        x.build(0);
        x.feed(62);
        Check.due("new: outputs show signal 0 alone", x.outputs(), 0);
        x.feed(1);
        Check.due("new: all outputs show signal 0", x.outputs(), 15);
        for (int r = 0; r < 6; r++) {
            x.load(r, r % 2);
        }
        Check.due("new: every register's next is itself", x.clock(1), 42);
        CellFabric y = new CellFabric();
        Check.due("new: a second object has no gates", y.signals(), 12);
        Check.due("new: a second object is not built", y.built(), false);
    }

    private static void everyKind() {
        for (int kind = 0; kind <= 9; kind++) {
            CellFabric x = new CellFabric();
            Check.due("gate(" + kind + ", 3, 1, 4)", x.gate(kind, 3, 1, 4), 12);
            x.show(0, 12);
            x.build(kind);
            for (int mix = 0; mix < 8; mix++) {
                x.set(3, mix & 1);
                x.set(1, (mix >> 1) & 1);
                x.set(4, mix >> 2);
                int want = LEVELS[kind].charAt(mix) - '0';
                Check.due("kind " + kind + " at mix " + mix, x.outputs() & 1, want);
            }
        }
    }

    private static void gateOfGates() {
        CellFabric x = new CellFabric();
        Check.due("gate of a register", x.gate(3, 11, 11, 0), 12);
        Check.due("gate of a gate", x.gate(7, 12, 5, 12), 13);
        Check.due("gate of gates alone", x.gate(8, 13, 12, 13), 14);
        x.show(3, 14);
        x.build(1);
        x.feed(32);
        Check.due("gates on gates: not r5 and i5", x.outputs(), 8);
        x.load(5, 1);
        Check.due("gates on gates: r5", x.outputs(), 0);
        x.load(5, 0);
        x.set(5, 0);
        Check.due("gates on gates: neither", x.outputs(), 0);
    }

    private static void gateRefusals() {
        CellFabric x = new CellFabric();
        for (int w : WRONG) {
            Check.due("gate(" + w + ", 0, 0, 0)", x.gate(w, 0, 0, 0), CellFabric.BAD);
            for (int kind = 0; kind <= 9; kind++) {
                Check.due("gate(" + kind + ", " + w + ", 0, 0)", x.gate(kind, w, 0, 0), CellFabric.BAD);
                Check.due("gate(" + kind + ", 0, " + w + ", 0)", x.gate(kind, 0, w, 0), CellFabric.BAD);
            }
            for (int kind = 7; kind <= 9; kind++) {
                Check.due("gate(" + kind + ", 0, 0, " + w + ")", x.gate(kind, 0, 0, w), CellFabric.BAD);
            }
        }
        Check.due("gate(10, 0, 0, 0)", x.gate(10, 0, 0, 0), CellFabric.BAD);
        Check.due("a gate of itself by a", x.gate(0, 12, 0, 0), CellFabric.BAD);
        Check.due("a gate of itself by b", x.gate(0, 0, 12, 0), CellFabric.BAD);
        Check.due("a gate of itself by c", x.gate(9, 0, 0, 12), CellFabric.BAD);
        Check.due("signals() after refusals", x.signals(), 12);
        Check.due("the last signals there are", x.gate(9, 11, 11, 11), 12);
        Check.due("the last signals there are, a gate", x.gate(9, 12, 12, 12), 13);
    }

    private static void gateThirdIsFree() {
        for (int w : WRONG) {
            CellFabric x = new CellFabric();
            for (int kind = 0; kind <= 6; kind++) {
                Check.due("gate(" + kind + ", 0, 1, " + w + ")", x.gate(kind, 0, 1, w), 12 + kind);
            }
            x.show(0, 12);
            x.show(1, 13);
            x.show(2, 14);
            x.show(3, 18);
            x.build(0);
            x.feed(1);
            Check.due("gates with c " + w, x.outputs(), 6);
        }
    }

    private static void gateFull() {
        CellFabric x = new CellFabric();
        for (int g = 0; g < 20; g++) {
            Check.due("gate " + g, x.gate(3, 11 + g, 11 + g, 0), 12 + g);
        }
        Check.due("gate 20", x.gate(0, 0, 0, 0), CellFabric.FULL);
        Check.due("gate 20 of the last signal", x.gate(7, 31, 31, 31), CellFabric.FULL);
        Check.due("a wrong kind is tested before full", x.gate(10, 0, 0, 0), CellFabric.BAD);
        Check.due("a wrong a is tested before full", x.gate(0, 32, 0, 0), CellFabric.BAD);
        Check.due("a wrong b is tested before full", x.gate(0, 0, 32, 0), CellFabric.BAD);
        Check.due("a wrong c is tested before full", x.gate(7, 0, 0, 32), CellFabric.BAD);
        Check.due("a free c when full", x.gate(6, 0, 0, 32), CellFabric.FULL);
        Check.due("signals() when full", x.signals(), 32);
        x.show(0, 31);
        x.show(1, 30);
        x.build(0);
        Check.due("twenty inverters", x.outputs(), 2);
        Check.due("drop() when full", x.drop(), 31);
        Check.due("room after a drop", x.gate(0, 0, 0, 0), 31);
    }

    private static void drop() {
        CellFabric x = new CellFabric();
        x.gate(3, 0, 0, 0);
        x.gate(1, 12, 0, 0);
        x.next(4, 13);
        x.next(5, 13);
        x.show(0, 13);
        x.show(3, 13);
        Check.due("drop() of two", x.drop(), 13);
        Check.due("signals() after the drop", x.signals(), 13);
        x.build(0);
        Check.due("the outputs show signal 0 now", x.outputs(), 0);
        x.load(4, 1);
        Check.due("the registers have themselves as next", x.clock(1), 16);
        x.set(0, 1);
        Check.due("the outputs show signal 0 that is 1", x.outputs(), 15);
        Check.due("drop() of one", x.drop(), 12);
        Check.due("drop() of none", x.drop(), CellFabric.BAD);
        Check.due("signals() after them", x.signals(), 12);
        Check.due("inputs and registers can't be dropped", x.drop(), CellFabric.BAD);
    }

    private static void dropKeepsOthers() {
        CellFabric x = new CellFabric();
        x.gate(3, 0, 0, 0);
        x.gate(0, 1, 1, 0);
        x.next(0, 12);
        x.next(1, 5);
        x.next(2, 13);
        x.show(1, 12);
        x.show(2, 11);
        x.show(3, 13);
        x.drop();
        x.build(0);
        x.feed(34);
        Check.due("nexts that the drop leaves", x.registers(), 3);
        x.load(5, 1);
        Check.due("outputs that the drop leaves", x.outputs(), 6);
    }

    private static void dropThenGate() {
        CellFabric x = new CellFabric();
        x.gate(3, 0, 0, 0);
        x.next(3, 12);
        x.show(1, 12);
        x.drop();
        Check.due("a gate after the drop", x.gate(5, 0, 0, 0), 12);
        x.build(0);
        Check.due("what showed the dropped gate doesn't show the new one", x.outputs(), 0);
        Check.due("what had the dropped gate as next hasn't the new one", x.clock(1), 0);
    }

    private static void next() {
        CellFabric x = new CellFabric();
        x.gate(5, 0, 0, 0);
        for (int r = 0; r < 6; r++) {
            Check.due("next(" + r + ", 12)", x.next(r, 12), true);
        }
        Check.due("next(-1, 0)", x.next(-1, 0), false);
        Check.due("next(6, 0)", x.next(6, 0), false);
        for (int r = 0; r < 6; r++) {
            Check.due("next(" + r + ", 13)", x.next(r, 13), false);
            Check.due("next(" + r + ", -1)", x.next(r, -1), false);
        }
        for (int w : WRONG) {
            Check.due("next(" + w + ", 0)", x.next(w, 0), false);
            Check.due("next(0, " + w + ")", x.next(0, w), false);
        }
        x.build(0);
        Check.due("every next is the gate", x.clock(1), 63);
        for (int r = 0; r < 6; r++) {
            Check.due("next(" + r + ", " + (5 - r) + ")", x.next(r, 5 - r), true);
        }
        Check.due("next does not change the device", x.clock(1), 63);
        x.build(0);
        x.feed(11);
        Check.due("nexts that are inputs", x.registers(), 52);
        for (int r = 0; r < 6; r++) {
            x.next(r, 6 + (r + 1) % 6);
        }
        x.build(0);
        x.load(0, 1);
        Check.due("nexts that are registers", x.clock(1), 32);
        Check.due("nexts that are registers, on", x.clock(1), 16);
    }

    private static void show() {
        CellFabric x = new CellFabric();
        for (int o = 0; o < 4; o++) {
            Check.due("show(" + o + ", " + (o + 2) + ")", x.show(o, o + 2), true);
        }
        Check.due("show(-1, 0)", x.show(-1, 0), false);
        Check.due("show(4, 0)", x.show(4, 0), false);
        for (int o = 0; o < 4; o++) {
            Check.due("show(" + o + ", 12)", x.show(o, 12), false);
            Check.due("show(" + o + ", -1)", x.show(o, -1), false);
        }
        for (int w : WRONG) {
            Check.due("show(" + w + ", 0)", x.show(w, 0), false);
            Check.due("show(0, " + w + ")", x.show(0, w), false);
        }
        x.build(0);
        for (int levels = 0; levels < 64; levels++) {
            Check.due("feed(" + levels + ")", x.feed(levels), levels >> 2);
        }
        x.show(0, 11);
        Check.due("show does not change the device", x.outputs(), 15);
        x.build(0);
        Check.due("a register shown", x.outputs(), 14);
        x.load(5, 1);
        Check.due("a register shown that is 1", x.outputs(), 15);
    }
}
