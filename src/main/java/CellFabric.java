/** Builds circuits with registers into a device of small cells and wires, and runs the device. */
public final class CellFabric {
    public static final int BAD = -1;
    public static final int FULL = -2;

    private static final int INPUTS = 6;
    private static final int REGISTERS = 6;
    private static final int OUTPUTS = 4;
    private static final int GATES = 20;
    private static final int FIRST_REGISTER = INPUTS;
    private static final int FIRST_GATE = INPUTS + REGISTERS;
    // One place for every signal there can be; 32 of them, so the levels of all places fit one int.
    private static final int PLACES = FIRST_GATE + GATES;
    private static final int REGISTER_STATES = 1 << REGISTERS;
    private static final int LAST_KIND = 9;
    private static final int FIRST_KIND_OF_THREE = 7;
    private static final int MOST_CHANCE = 1000;
    private static final int MOST_CYCLES = 20;
    private static final int MOST_LEVELS = (1 << INPUTS) - 1;
    private static final int MIXES = 8;

    // The circuit: everything in it is named by signal numbers.
    private int gates;
    private final int[] kindOfGate = new int[GATES];
    private final int[] firstOfGate = new int[GATES];
    private final int[] secondOfGate = new int[GATES];
    private final int[] thirdOfGate = new int[GATES];
    private final int[] nextOfRegister = new int[REGISTERS];
    private final int[] shownByOutput = new int[OUTPUTS];

    // The device: everything in it is named by places, and nothing in it looks back at the circuit.
    private boolean hasDevice;
    private int cells;
    private final int[] placeOfSignal = new int[PLACES];
    private final int[] tableOfCell = new int[PLACES];
    private final int[] firstWireOfCell = new int[PLACES];
    private final int[] secondWireOfCell = new int[PLACES];
    private final int[] thirdWireOfCell = new int[PLACES];
    private final int[] wireOfRegister = new int[REGISTERS];
    private final int[] wireOfOutput = new int[OUTPUTS];
    private int inputLevels;
    private int registerLevels;

    public CellFabric() {
        for (int r = 0; r < REGISTERS; r++) {
            nextOfRegister[r] = FIRST_REGISTER + r;
        }
    }

    public int gate(int kind, int a, int b, int c) {
        if (kind < 0 || kind > LAST_KIND || !isSignal(a) || !isSignal(b)) {
            return BAD;
        }
        boolean ofThree = kind >= FIRST_KIND_OF_THREE;
        if (ofThree && !isSignal(c)) {
            return BAD;
        }
        if (gates >= GATES) {
            return FULL;
        }
        kindOfGate[gates] = kind;
        firstOfGate[gates] = a;
        secondOfGate[gates] = b;
        // The other kinds take any c, so it can't be trusted as a signal there.
        thirdOfGate[gates] = ofThree ? c : a;
        gates++;
        return FIRST_GATE + gates - 1;
    }

    public int drop() {
        if (gates <= 0) {
            return BAD;
        }
        gates--;
        forget(FIRST_GATE + gates);
        return FIRST_GATE + gates;
    }

    public int signals() {
        return FIRST_GATE + gates;
    }

    public boolean next(int r, int signal) {
        if (!isRegister(r) || !isSignal(signal)) {
            return false;
        }
        nextOfRegister[r] = signal;
        return true;
    }

    public boolean show(int o, int signal) {
        if (o < 0 || o >= OUTPUTS || !isSignal(signal)) {
            return false;
        }
        shownByOutput[o] = signal;
        return true;
    }

    public boolean build(int chance) {
        if (chance < 0 || chance > MOST_CHANCE) {
            return false;
        }
        choosePlaces(chance);
        putCells();
        layWires();
        registerLevels = 0;
        hasDevice = true;
        return true;
    }

    public boolean built() {
        return hasDevice;
    }

    public boolean set(int i, int v) {
        if (i < 0 || i >= INPUTS || !isLevel(v)) {
            return false;
        }
        inputLevels = withBit(inputLevels, i, v);
        return true;
    }

    public int inputs() {
        return inputLevels;
    }

    public int clock(int n) {
        if (!hasDevice || n < 0 || n > MOST_CYCLES) {
            return BAD;
        }
        for (int cycle = 0; cycle < n; cycle++) {
            registerLevels = registersAfter(registerLevels);
        }
        return registerLevels;
    }

    public int registers() {
        return hasDevice ? registerLevels : BAD;
    }

    public boolean load(int r, int v) {
        if (!hasDevice || !isRegister(r) || !isLevel(v)) {
            return false;
        }
        registerLevels = withBit(registerLevels, r, v);
        return true;
    }

    public int outputs() {
        return hasDevice ? shownLevels() : BAD;
    }

    public int feed(int levels) {
        if (!hasDevice || levels < 0 || levels > MOST_LEVELS) {
            return BAD;
        }
        inputLevels = levels;
        int shown = shownLevels();
        registerLevels = registersAfter(registerLevels);
        return shown;
    }

    public int tail() {
        if (!hasDevice) {
            return BAD;
        }
        int entry = loopEntry();
        return registerLevels == entry ? 0 : cyclesBetween(registerLevels, entry);
    }

    public int period() {
        if (!hasDevice) {
            return BAD;
        }
        int entry = loopEntry();
        return cyclesBetween(entry, entry);
    }

    private boolean isSignal(int s) {
        return s >= 0 && s < FIRST_GATE + gates;
    }

    private static boolean isRegister(int r) {
        return r >= 0 && r < REGISTERS;
    }

    private static boolean isLevel(int v) {
        return v == 0 || v == 1;
    }

    private static int bit(int bits, int i) {
        return (bits >>> i) & 1;
    }

    private static int withBit(int bits, int i, int v) {
        return (bits & ~(1 << i)) | (v << i);
    }

    private void forget(int signal) {
        for (int r = 0; r < REGISTERS; r++) {
            if (nextOfRegister[r] == signal) {
                nextOfRegister[r] = FIRST_REGISTER + r;
            }
        }
        for (int o = 0; o < OUTPUTS; o++) {
            if (shownByOutput[o] == signal) {
                shownByOutput[o] = 0;
            }
        }
    }

    // An odd stride over a power of two meets every place once, so no two signals share a place.
    private void choosePlaces(int chance) {
        int stride = 2 * chance + 1;
        for (int s = 0; s < PLACES; s++) {
            placeOfSignal[s] = (chance + s * stride) & (PLACES - 1);
        }
    }

    private void putCells() {
        cells = gates;
        for (int g = 0; g < gates; g++) {
            int place = placeOfSignal[FIRST_GATE + g];
            tableOfCell[place] = tableOfKind(kindOfGate[g]);
            firstWireOfCell[place] = placeOfSignal[firstOfGate[g]];
            secondWireOfCell[place] = placeOfSignal[secondOfGate[g]];
            thirdWireOfCell[place] = placeOfSignal[thirdOfGate[g]];
        }
    }

    private void layWires() {
        for (int r = 0; r < REGISTERS; r++) {
            wireOfRegister[r] = placeOfSignal[nextOfRegister[r]];
        }
        for (int o = 0; o < OUTPUTS; o++) {
            wireOfOutput[o] = placeOfSignal[shownByOutput[o]];
        }
    }

    // A cell knows no kinds: it looks its level up by its three wires, a in bit 0 of the index.
    private static int tableOfKind(int kind) {
        int table = 0;
        for (int mix = 0; mix < MIXES; mix++) {
            int level = levelOfKind(kind, mix & 1, (mix >> 1) & 1, mix >> 2);
            table |= level << mix;
        }
        return table;
    }

    private static int levelOfKind(int kind, int a, int b, int c) {
        switch (kind) {
            case 0:
                return a & b;
            case 1:
                return a | b;
            case 2:
                return a ^ b;
            case 3:
                return 1 - (a & b);
            case 4:
                return 1 - (a | b);
            case 5:
                return 1 - (a ^ b);
            case 6:
                return (1 - a) | b;
            case 7:
                return a == 1 ? b : c;
            case 8:
                return a + b + c >= 2 ? 1 : 0;
            default:
                return a ^ b ^ c;
        }
    }

    // Takes the registers as an argument, so that tail and period can look ahead without a change.
    private int levelsOfPlaces(int registerBits) {
        int levels = 0;
        for (int i = 0; i < INPUTS; i++) {
            levels |= bit(inputLevels, i) << placeOfSignal[i];
        }
        for (int r = 0; r < REGISTERS; r++) {
            levels |= bit(registerBits, r) << placeOfSignal[FIRST_REGISTER + r];
        }
        // A gate's signals have lower numbers, so in this order every wire is settled before it is read.
        for (int g = 0; g < cells; g++) {
            int place = placeOfSignal[FIRST_GATE + g];
            levels |= levelOfCell(place, levels) << place;
        }
        return levels;
    }

    private int levelOfCell(int place, int levels) {
        int a = bit(levels, firstWireOfCell[place]);
        int b = bit(levels, secondWireOfCell[place]);
        int c = bit(levels, thirdWireOfCell[place]);
        return bit(tableOfCell[place], a | (b << 1) | (c << 2));
    }

    private int registersAfter(int registerBits) {
        int levels = levelsOfPlaces(registerBits);
        int after = 0;
        for (int r = 0; r < REGISTERS; r++) {
            after |= bit(levels, wireOfRegister[r]) << r;
        }
        return after;
    }

    private int shownLevels() {
        int levels = levelsOfPlaces(registerLevels);
        int shown = 0;
        for (int o = 0; o < OUTPUTS; o++) {
            shown |= bit(levels, wireOfOutput[o]) << o;
        }
        return shown;
    }

    // The first state met twice is the first one on the loop that the registers run into.
    private int loopEntry() {
        long met = 0L;
        int state = registerLevels;
        for (int cycle = 0; cycle < REGISTER_STATES; cycle++) {
            long mark = 1L << state;
            if ((met & mark) != 0L) {
                return state;
            }
            met |= mark;
            state = registersAfter(state);
        }
        return state;
    }

    private int cyclesBetween(int from, int goal) {
        int cycles = 1;
        int state = registersAfter(from);
        while (state != goal && cycles < REGISTER_STATES) {
            state = registersAfter(state);
            cycles++;
        }
        return cycles;
    }
}
