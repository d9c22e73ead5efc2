/** Promises 7 and 8: build, built. */
public final class BuildTest {
    public static void main(String[] args) {
        range();
        clearsRegisters();
        keepsInputs();
        deviceIsApart();
        everyChanceIsTheSame();
        Check.end();
    }

    private static void range() {
        int[] wrong = {Integer.MIN_VALUE, -1, 1001, Integer.MAX_VALUE};
        for (int chance : wrong) {
            CellFabric x = new CellFabric();
            Check.due("build(" + chance + ")", x.build(chance), false);
            Check.due("built() after build(" + chance + ")", x.built(), false);
            Check.due("registers() after build(" + chance + ")", x.registers(), CellFabric.BAD);
        }
        int[] right = {0, 1, 999, 1000};
        for (int chance : right) {
            CellFabric x = new CellFabric();
            Check.due("build(" + chance + ")", x.build(chance), true);
            Check.due("built() after build(" + chance + ")", x.built(), true);
            Check.due("registers() after build(" + chance + ")", x.registers(), 0);
            Check.due("build(1001) of a built one", x.build(1001), false);
            Check.due("built() after that", x.built(), true);
        }
    }

    private static void clearsRegisters() {
        CellFabric x = new CellFabric();
        x.build(0);
        for (int r = 0; r < 6; r++) {
            x.load(r, 1);
        }
        Check.due("registers() when loaded", x.registers(), 63);
        Check.due("build(-1) when loaded", x.build(-1), false);
        Check.due("registers() after a refused build", x.registers(), 63);
        x.build(0);
        Check.due("registers() after a building", x.registers(), 0);
    }

    private static void keepsInputs() {
        CellFabric x = new CellFabric();
        x.set(1, 1);
        x.set(4, 1);
        x.build(7);
        Check.due("inputs() set before the first building", x.inputs(), 18);
        x.show(2, 4);
        x.build(8);
        Check.due("inputs() after the second", x.inputs(), 18);
        Check.due("outputs() by these inputs", x.outputs(), 4);
    }

    private static void deviceIsApart() {
        CellFabric x = new CellFabric();
        x.gate(3, 6, 6, 0);
        x.gate(1, 12, 0, 0);
        x.next(0, 12);
        x.show(0, 6);
        x.show(1, 13);
        x.build(3);
        x.drop();
        x.drop();
        Check.due("outputs() with the circuit's gates dropped", x.outputs(), 2);
        Check.due("clock(1) with the circuit's gates dropped", x.clock(1), 1);
        Check.due("clock(1) once more", x.clock(1), 0);
        x.gate(0, 0, 0, 0);
        x.gate(2, 0, 0, 0);
        x.gate(2, 1, 1, 0);
        x.next(0, 13);
        x.show(0, 14);
        Check.due("outputs() of the device as built", x.outputs(), 2);
        Check.due("clock(1) of the device as built", x.clock(1), 1);
        Check.due("outputs() after that", x.outputs(), 1);
        Check.due("period() of the device as built", x.period(), 2);
        Check.due("build(2000)", x.build(2000), false);
        Check.due("clock(1) after a refused building", x.clock(1), 0);
        x.clock(1);
        x.build(3);
        Check.due("outputs() after the next building", x.outputs(), 0);
        Check.due("clock(1) after the next building", x.clock(1), 0);
        Check.due("period() after the next building", x.period(), 1);
    }

    // Two places for one cell, or a wire to a wrong one, would show with some chance.
    private static void everyChanceIsTheSame() {
        for (int chance = 0; chance <= 1000; chance++) {
            CellFabric x = new CellFabric();
            fillWithCounter(x);
            x.build(500);
            x.feed(32);
            x.build(chance);
            for (int step = 0; step < 20; step++) {
                Check.due("chance " + chance + ", step " + step, x.feed(step % 3 == 0 ? 0 : 1), due(step));
            }
            Check.due("chance " + chance + ": period()", x.period(), 64);
        }
    }

    // What the counter's low bits and its count input are at a step, when every third step does not count.
    private static int due(int step) {
        int count = step - (step + 2) / 3;
        int counts = step % 3 == 0 ? 0 : 1;
        return count % 8 | counts << 3;
    }

    private static void fillWithCounter(CellFabric x) {
        Circuits.counter(x, 0);
        for (int g = 12; g < 20; g++) {
            x.gate(3, 11 + g, 11 + g, 0);
        }
        x.show(0, 6);
        x.show(1, 7);
        x.show(2, 8);
        x.show(3, 0);
    }
}
