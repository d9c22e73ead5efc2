/** LANGUAGE.md's rule 7, "for any arguments in any state": beyond the document's 512 calls, too. */
public final class AnyCallTest {
    private static final int[] ODD = {
        Integer.MIN_VALUE, -64, -1, 0, 1, 2, 5, 9, 11, 12, 20, 31, 32, 64, 1000, Integer.MAX_VALUE,
    };
    private static final String[] ASKED = {
        "signals", "built", "inputs", "registers", "outputs", "tail", "period",
    };

    public static void main(String[] args) {
        CellFabric x = new CellFabric();
        boolean full = false;
        boolean emptied = false;
        for (int round = 0; round < 4096; round++) {
            everyCall(x, ODD[round % 16], ODD[round / 16 % 16], ODD[round / 256], round * 7 % 32);
            // The circuit grows for a while before it shrinks, so that it is now full and now empty.
            if (round / 64 % 2 == 1) {
                call(x, "drop");
                call(x, "drop");
            }
            full |= x.signals() == 32;
            emptied |= full && x.signals() == 12;
        }
        Check.due("the circuit was full", full, true);
        Check.due("the circuit was empty after it was full", emptied, true);
        Check.end();
    }

    private static void everyCall(CellFabric x, int k, int l, int m, int signal) {
        call(x, "gate", k, l, m, signal);
        call(x, "gate", 9, signal / 2, signal, l);
        call(x, "next", k, l);
        call(x, "next", l, signal);
        call(x, "show", l, m);
        call(x, "show", m, signal);
        call(x, "set", k, m);
        call(x, "load", m, l);
        call(x, "build", m);
        call(x, "clock", l);
        call(x, "feed", k);
        for (String name : ASKED) {
            call(x, name);
        }
    }

    private static void call(CellFabric x, String name, int... args) {
        // The answer is free after 512 calls; a call that throws ends the test, for nothing catches it.
        new Call(name, args).on(x);
    }
}
