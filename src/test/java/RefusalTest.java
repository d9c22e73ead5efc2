import java.util.function.Consumer;

/** Promise 18: a refused call changes nothing. Each is made on one of two like objects. */
public final class RefusalTest {
    public static void main(String[] args) {
        refused("gate of no kind", x -> Check.due("gate", x.gate(10, 0, 0, 0), CellFabric.BAD));
        refused("gate of no a", x -> Check.due("gate", x.gate(0, 99, 0, 0), CellFabric.BAD));
        refused("gate of no b", x -> Check.due("gate", x.gate(0, 0, -1, 0), CellFabric.BAD));
        refused("gate of no c", x -> Check.due("gate", x.gate(8, 0, 0, 99), CellFabric.BAD));
        refused("next of no register", x -> Check.due("next", x.next(6, 3), false));
        refused("next of register -1", x -> Check.due("next", x.next(-1, 3), false));
        refused("next that is no signal", x -> Check.due("next", x.next(1, 32), false));
        refused("show of no output", x -> Check.due("show", x.show(4, 3), false));
        refused("show of output -1", x -> Check.due("show", x.show(-1, 3), false));
        refused("show of no signal", x -> Check.due("show", x.show(1, 32), false));
        refused("build below", x -> Check.due("build", x.build(-1), false));
        refused("build above", x -> Check.due("build", x.build(1001), false));
        refused("set of no input", x -> Check.due("set", x.set(6, 1), false));
        refused("set of input -1", x -> Check.due("set", x.set(-1, 1), false));
        refused("set to no level", x -> Check.due("set", x.set(1, 3), false));
        refused("clock below", x -> Check.due("clock", x.clock(-1), CellFabric.BAD));
        refused("clock above", x -> Check.due("clock", x.clock(21), CellFabric.BAD));
        refused("load of no register", x -> Check.due("load", x.load(6, 1), false));
        refused("load of register -1", x -> Check.due("load", x.load(-1, 1), false));
        refused("load of no level", x -> Check.due("load", x.load(1, 3), false));
        refused("feed below", x -> Check.due("feed", x.feed(-1), CellFabric.BAD));
        refused("feed above", x -> Check.due("feed", x.feed(64), CellFabric.BAD));
        whenFull();
        whenEmpty();
        Check.end();
    }

    private static void refused(String what, Consumer<CellFabric> call) {
        CellFabric plain = half();
        CellFabric tried = half();
        call.accept(tried);
        same(what, tried, plain);
    }

    private static void whenFull() {
        CellFabric plain = half();
        CellFabric tried = half();
        for (int g = 4; g < 20; g++) {
            plain.gate(g % 10, g, g + 11, g + 1);
            tried.gate(g % 10, g, g + 11, g + 1);
        }
        plain.next(2, 31);
        tried.next(2, 31);
        Check.due("gate when full", tried.gate(3, 1, 2, 3), CellFabric.FULL);
        same("gate when full", tried, plain);
    }

    private static void whenEmpty() {
        CellFabric plain = new CellFabric();
        CellFabric tried = new CellFabric();
        plain.show(2, 11);
        tried.show(2, 11);
        plain.next(5, 1);
        tried.next(5, 1);
        Check.due("drop when empty", tried.drop(), CellFabric.BAD);
        Check.due("clock when empty", tried.clock(1), CellFabric.BAD);
        Check.due("load when empty", tried.load(0, 1), false);
        Check.due("feed when empty", tried.feed(5), CellFabric.BAD);
        Check.due("tail when empty", tried.tail(), CellFabric.BAD);
        Check.due("period when empty", tried.period(), CellFabric.BAD);
        Check.due("outputs when empty", tried.outputs(), CellFabric.BAD);
        Check.due("registers when empty", tried.registers(), CellFabric.BAD);
        same("calls when empty", tried, plain);
    }

    // The circuit differs from the device here, so that a change in either shows.
    private static CellFabric half() {
        CellFabric x = new CellFabric();
        x.gate(3, 6, 7, 0);
        x.gate(9, 12, 2, 8);
        x.gate(7, 1, 13, 9);
        x.next(0, 12);
        x.next(1, 13);
        x.next(2, 14);
        x.show(0, 12);
        x.show(1, 13);
        x.build(12);
        x.feed(22);
        x.clock(3);
        x.load(4, 1);
        x.gate(8, 14, 5, 6);
        x.next(1, 15);
        x.next(3, 6);
        x.show(1, 11);
        x.show(2, 15);
        return x;
    }

    private static void same(String what, CellFabric tried, CellFabric plain) {
        Check.due(what + ": signals()", tried.signals(), plain.signals());
        sameDevice(what, tried, plain);
        plain.build(1);
        tried.build(1);
        sameDevice(what + ", built", tried, plain);
        Check.due(what + ": the next gate", tried.gate(0, 0, 0, 0), plain.gate(0, 0, 0, 0));
    }

    private static void sameDevice(String what, CellFabric tried, CellFabric plain) {
        Check.due(what + ": built()", tried.built(), plain.built());
        Check.due(what + ": inputs()", tried.inputs(), plain.inputs());
        Check.due(what + ": registers()", tried.registers(), plain.registers());
        Check.due(what + ": outputs()", tried.outputs(), plain.outputs());
        Check.due(what + ": tail()", tried.tail(), plain.tail());
        Check.due(what + ": period()", tried.period(), plain.period());
        for (int step = 0; step < 40; step++) {
            int levels = step * 37 % 64;
            tried.load(step % 6, step / 6 % 2);
            plain.load(step % 6, step / 6 % 2);
            Check.due(what + ": feed(" + levels + ")", tried.feed(levels), plain.feed(levels));
            Check.due(what + ": registers() after it", tried.registers(), plain.registers());
        }
    }
}
