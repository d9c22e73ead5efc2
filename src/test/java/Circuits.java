/** Circuits that more than one test uses. */
final class Circuits {
    private Circuits() {
    }

    /** Six registers as a number that grows by the signal's level in every cycle; takes twelve gates. */
    static void counter(CellFabric x, int signal) {
        int carry = signal;
        for (int r = 0; r < 6; r++) {
            int sum = x.gate(2, 6 + r, carry, 0);
            carry = x.gate(0, 6 + r, carry, 0);
            x.next(r, sum);
        }
    }

    /** Input 0 goes into register 0, and each register into the one after it. */
    static void shifter(CellFabric x) {
        x.next(0, 0);
        for (int r = 1; r < 6; r++) {
            x.next(r, 5 + r);
        }
    }
}
