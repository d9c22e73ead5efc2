/** Circuits that more than one test uses. */
final class Circuits {
    private Circuits() {
    }

    /** Six registers as a number that grows by the signal's level in every cycle; takes twelve gates. */
    static void counter(CellFabric x, int signal) {
        int carry = signal;
        for (int r = 0; r < 6; r++) {
            int sum = x.gate(2, 6 + r, carry, 0);
            carry = x.gate(0, 6 + r, carry, 0);
            x.next(r, sum);
        }
    }

    /** Input 0 goes into register 0, and each register into the one after it. */
    static void shifter(CellFabric x) {
        x.next(0, 0);
        for (int r = 1; r < 6; r++) {
            x.next(r, 5 + r);
        }
    }

    /** Six registers, built, that count from 0 to 63 and go on at a number: a loop of 64 less that number. */
    static Pair countThenGoOnAt(int start) {
        Pair p = new Pair("a count that goes on at " + start);
        int[] more = new int[6];
        int carry = 6;
        more[0] = p.both("gate", 4, 6, 6, 0);
        for (int r = 1; r < 6; r++) {
            more[r] = p.both("gate", 2, 6 + r, carry, 0);
            carry = p.both("gate", 0, 6 + r, carry, 0);
        }
        for (int r = 0; r < 6; r++) {
            // After 63 the sums are all 0 by themselves, so only the ones of the number are added.
            boolean one = (start >> r) % 2 == 1;
            p.both("next", r, one ? p.both("gate", 1, more[r], carry, 0) : more[r]);
        }
        p.both("build", start);
        return p;
    }
}
