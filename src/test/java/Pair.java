/** A program's object beside a model: what is called on both must be answered alike. */
final class Pair {
    /** The document promises nothing about an object after so many calls. */
    static final int MOST_CALLS = 512;

    private final CellFabric program = new CellFabric();
    private final Model model = new Model();
    private final String title;
    private int calls;

    Pair(String title) {
        this.title = title;
    }

    /** Makes a call on both and answers what the model answered. */
    int both(String name, int... args) {
        Call call = new Call(name, args);
        int due = call.on(model);
        program(call, due);
        return due;
    }

    /** A call that is taken: both must answer what the test says. */
    void taken(int due, String name, int... args) {
        Call call = new Call(name, args);
        Check.due(title + ": the model's " + call, call.on(model), due);
        program(call, due);
    }

    /** A call that is refused: the model never gets it, so whatever it changes shows later. */
    void refused(int due, String name, int... args) {
        program(new Call(name, args), due);
    }

    int signals() {
        return model.signals();
    }

    private void program(Call call, int due) {
        calls++;
        if (calls > MOST_CALLS) {
            throw new IllegalStateException(title + " makes too many calls");
        }
        int got = call.on(program);
        // The text is put together for wrong answers alone: there are millions of right ones.
        if (got != due) {
            Check.due(title + ", call " + calls + ": " + call, got, due);
        }
    }

    /** Asks all that can be asked without a change. */
    void look() {
        both("signals");
        both("built");
        both("inputs");
        both("registers");
        both("outputs");
        both("tail");
        both("period");
    }

    /** Goes on with the object in such a way that a change anywhere in it shows in some answer. */
    void later() {
        look();
        run(18);
        both("build", 1);
        look();
        run(18);
        showEverySignal();
        dropEveryGate();
        both("build", 2);
        look();
        both("gate", 9, 0, 6, 11);
    }

    private void run(int steps) {
        for (int step = 0; step < steps; step++) {
            both("feed", step * 37 % 64);
            both("registers");
            both("load", step % 6, step / 6 % 2);
        }
    }

    private void showEverySignal() {
        for (int first = 0; first < signals(); first += 4) {
            for (int o = 0; o < 4; o++) {
                both("show", o, Math.min(first + o, signals() - 1));
            }
            both("build", first);
            for (int levels = 0; levels < 64; levels += 15) {
                both("load", levels % 6, 1);
                both("feed", levels);
            }
        }
    }

    private void dropEveryGate() {
        while (signals() > 12) {
            both("drop");
        }
        both("drop");
    }
}
