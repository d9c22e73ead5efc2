/** Promises 9 to 15: set, inputs, clock, registers, load, outputs, feed. */
public final class DeviceTest {
    private static final int[] WRONG = {Integer.MIN_VALUE, -1, 64, Integer.MAX_VALUE};

    public static void main(String[] args) {
        set();
        clock();
        registersMoveAtOnce();
        load();
        outputs();
        feed();
        feedRefusals();
        Check.end();
    }

    private static void set() {
        CellFabric x = new CellFabric();
        for (int i = 0; i < 6; i++) {
            Check.due("set(" + i + ", 1)", x.set(i, 1), true);
            Check.due("inputs() after it", x.inputs(), (2 << i) - 1);
        }
        for (int i = 0; i < 6; i++) {
            Check.due("set(" + i + ", 2)", x.set(i, 2), false);
            Check.due("set(" + i + ", -1)", x.set(i, -1), false);
        }
        for (int w : WRONG) {
            Check.due("set(" + w + ", 0)", x.set(w, 0), false);
            Check.due("set(0, " + w + ")", x.set(0, w), false);
        }
        Check.due("set(6, 0)", x.set(6, 0), false);
        Check.due("set(32, 0)", x.set(32, 0), false);
        Check.due("inputs() after refusals", x.inputs(), 63);
        Check.due("set(2, 0)", x.set(2, 0), true);
        Check.due("inputs() after it", x.inputs(), 59);
        Check.due("set(2, 0) again", x.set(2, 0), true);
        Check.due("set(5, 1) again", x.set(5, 1), true);
        Check.due("inputs() after them", x.inputs(), 59);
        Check.due("set builds nothing", x.built(), false);
        x.build(0);
        x.load(2, 1);
        x.set(2, 1);
        Check.due("set leaves the registers", x.registers(), 4);
    }

    private static void clock() {
        CellFabric x = new CellFabric();
        Circuits.shifter(x);
        for (int n = -1; n <= 21; n++) {
            Check.due("clock(" + n + ") of nothing", x.clock(n), CellFabric.BAD);
        }
        x.build(0);
        x.set(0, 1);
        Check.due("clock(0)", x.clock(0), 0);
        Check.due("clock(1)", x.clock(1), 1);
        Check.due("clock(2)", x.clock(2), 7);
        Check.due("clock(-1)", x.clock(-1), CellFabric.BAD);
        Check.due("clock(21)", x.clock(21), CellFabric.BAD);
        for (int w : WRONG) {
            Check.due("clock(" + w + ")", x.clock(w), CellFabric.BAD);
        }
        Check.due("registers() after refusals", x.registers(), 7);
        x.set(0, 0);
        Check.due("clock(1) with the input off", x.clock(1), 14);
        Check.due("clock(20)", x.clock(20), 0);
        Check.due("inputs() stay", x.inputs(), 0);
        cyclesAreCounted();
    }

    private static void cyclesAreCounted() {
        for (int n = 0; n <= 20; n++) {
            CellFabric x = new CellFabric();
            Circuits.counter(x, 0);
            x.build(0);
            x.set(0, 1);
            Check.due("counter: clock(" + n + ")", x.clock(n), n);
            Check.due("counter: registers()", x.registers(), n);
            Check.due("counter: clock(20) on", x.clock(20), n + 20);
        }
    }

    private static void registersMoveAtOnce() {
        CellFabric x = new CellFabric();
        x.next(0, 7);
        x.next(1, 6);
        x.next(4, 11);
        x.next(5, 10);
        x.build(0);
        x.load(0, 1);
        x.load(5, 1);
        Check.due("registers that change places", x.clock(1), 18);
        Check.due("registers that change back", x.clock(1), 33);
    }

    private static void load() {
        CellFabric x = new CellFabric();
        Check.due("load(0, 1) of nothing", x.load(0, 1), false);
        Check.due("registers() of nothing", x.registers(), CellFabric.BAD);
        x.build(0);
        Check.due("registers() when built", x.registers(), 0);
        for (int r = 0; r < 6; r++) {
            Check.due("load(" + r + ", 1)", x.load(r, 1), true);
            Check.due("registers() after it", x.registers(), (2 << r) - 1);
        }
        for (int r = 0; r < 6; r++) {
            Check.due("load(" + r + ", 2)", x.load(r, 2), false);
            Check.due("load(" + r + ", -1)", x.load(r, -1), false);
        }
        for (int w : WRONG) {
            Check.due("load(" + w + ", 0)", x.load(w, 0), false);
            Check.due("load(0, " + w + ")", x.load(0, w), false);
        }
        Check.due("load(6, 0)", x.load(6, 0), false);
        Check.due("load(32, 0)", x.load(32, 0), false);
        Check.due("registers() after refusals", x.registers(), 63);
        Check.due("load(3, 0)", x.load(3, 0), true);
        Check.due("load(3, 0) again", x.load(3, 0), true);
        Check.due("load(4, 1) again", x.load(4, 1), true);
        Check.due("registers() after them", x.registers(), 55);
        Check.due("inputs() stay", x.inputs(), 0);
    }

    private static void outputs() {
        CellFabric x = new CellFabric();
        x.show(0, 0);
        x.show(1, 6);
        x.show(2, x.gate(2, 0, 6, 0));
        x.show(3, x.gate(4, 0, 6, 0));
        Check.due("outputs() of nothing", x.outputs(), CellFabric.BAD);
        x.build(0);
        Check.due("outputs() at 0, 0", x.outputs(), 8);
        x.set(0, 1);
        Check.due("outputs() at 1, 0", x.outputs(), 5);
        x.load(0, 1);
        Check.due("outputs() at 1, 1", x.outputs(), 3);
        x.set(0, 0);
        Check.due("outputs() at 0, 1", x.outputs(), 6);
        Check.due("outputs() do no cycle", x.registers(), 1);
    }

    private static void feed() {
        CellFabric x = new CellFabric();
        int sum = x.gate(2, 0, 6, 0);
        x.next(0, sum);
        x.next(5, 5);
        x.show(0, 0);
        x.show(1, 6);
        x.show(2, sum);
        x.show(3, 5);
        x.build(0);
        Check.due("feed(1)", x.feed(1), 5);
        Check.due("registers() after feed(1)", x.registers(), 1);
        Check.due("inputs() after feed(1)", x.inputs(), 1);
        Check.due("feed(1) again", x.feed(1), 3);
        Check.due("registers() after it", x.registers(), 0);
        Check.due("feed(63)", x.feed(63), 13);
        Check.due("inputs() after feed(63)", x.inputs(), 63);
        Check.due("registers() after feed(63)", x.registers(), 33);
        Check.due("feed(0)", x.feed(0), 6);
        Check.due("inputs() after feed(0)", x.inputs(), 0);
        Check.due("registers() after feed(0)", x.registers(), 1);
    }

    private static void feedRefusals() {
        CellFabric x = new CellFabric();
        x.set(1, 1);
        x.next(0, 1);
        Check.due("feed(0) of nothing", x.feed(0), CellFabric.BAD);
        Check.due("feed(63) of nothing", x.feed(63), CellFabric.BAD);
        Check.due("inputs() after a refused feed of nothing", x.inputs(), 2);
        x.build(0);
        for (int w : WRONG) {
            Check.due("feed(" + w + ")", x.feed(w), CellFabric.BAD);
            Check.due("inputs() after feed(" + w + ")", x.inputs(), 2);
            Check.due("registers() after feed(" + w + ")", x.registers(), 0);
        }
    }
}
