/** Promises 16 and 17: tail, period. */
public final class LoopTest {
    public static void main(String[] args) {
        nothingBuilt();
        standsStill();
        shiftsOut();
        runsIntoALoop();
        longestTail();
        longestPeriod();
        byTheInputs();
        Check.end();
    }

    private static void due(String what, CellFabric x, int tail, int period) {
        int inputs = x.inputs();
        int registers = x.registers();
        Check.due(what + ": tail()", x.tail(), tail);
        Check.due(what + ": period()", x.period(), period);
        Check.due(what + ": tail() again", x.tail(), tail);
        Check.due(what + ": inputs() stay", x.inputs(), inputs);
        Check.due(what + ": registers() stay", x.registers(), registers);
    }

    private static void nothingBuilt() {
        CellFabric x = new CellFabric();
        due("nothing built", x, CellFabric.BAD, CellFabric.BAD);
        x.build(1001);
        due("nothing built still", x, CellFabric.BAD, CellFabric.BAD);
    }

    private static void standsStill() {
        CellFabric x = new CellFabric();
        x.build(0);
        due("registers that stay 0", x, 0, 1);
        x.load(3, 1);
        due("registers that stay", x, 0, 1);
    }

    private static void shiftsOut() {
        CellFabric x = new CellFabric();
        Circuits.shifter(x);
        x.build(0);
        for (int r = 5; r >= 0; r--) {
            x.load(r, 1);
            due("a shifter from register " + r, x, 6 - r, 1);
        }
        x.clock(2);
        due("a shifter two cycles on", x, 4, 1);
    }

    // Registers 0 to 2 shift a 1 out while 4 and 5 change places: a tail of three, then a loop of two.
    private static void runsIntoALoop() {
        CellFabric x = new CellFabric();
        x.next(0, 0);
        x.next(1, 6);
        x.next(2, 7);
        x.next(4, 11);
        x.next(5, 10);
        x.build(0);
        x.load(4, 1);
        due("on the loop", x, 0, 2);
        x.load(0, 1);
        due("three before the loop", x, 3, 2);
        x.clock(1);
        due("two before the loop", x, 2, 2);
        x.clock(2);
        due("come to the loop", x, 0, 2);
    }

    // The counter stops when it is full, so it takes 63 cycles from 0.
    private static void longestTail() {
        CellFabric x = new CellFabric();
        int full = 6;
        for (int r = 1; r < 6; r++) {
            full = x.gate(0, full, 6 + r, 0);
        }
        Circuits.counter(x, x.gate(3, full, full, 0));
        x.build(0);
        due("a counter that stops", x, 63, 1);
        x.clock(20);
        due("a counter that stops, on", x, 43, 1);
        x.clock(20);
        x.clock(20);
        x.clock(3);
        due("a counter that has stopped", x, 0, 1);
    }

    private static void longestPeriod() {
        CellFabric x = new CellFabric();
        Circuits.counter(x, 0);
        x.build(0);
        due("a counter that is held", x, 0, 1);
        x.set(0, 1);
        due("a counter", x, 0, 64);
        x.clock(17);
        due("a counter, on", x, 0, 64);
    }

    private static void byTheInputs() {
        CellFabric x = new CellFabric();
        x.next(0, x.gate(2, 0, 6, 0));
        x.next(1, 1);
        x.build(0);
        due("no input", x, 0, 1);
        x.set(1, 1);
        due("one to take over", x, 1, 1);
        x.set(0, 1);
        due("one to take over and one to change", x, 1, 2);
        x.clock(1);
        due("one to change", x, 0, 2);
        x.set(1, 0);
        due("one to give back", x, 1, 2);
    }
}
