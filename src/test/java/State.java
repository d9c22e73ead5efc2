/** What an object may have behind it when an edge is tried: none to all of the gates, built or not. */
enum State {
    NEW(0, false, 0),
    EMPTY_BUILT(0, true, 0),
    ONE(1, false, 1),
    SOME_BUILT(5, true, 7),
    ALMOST_FULL(19, false, 19),
    ALMOST_FULL_BUILT(20, true, 19),
    FULL(20, false, 20),
    FULL_BUILT(20, true, 20),
    EMPTY_AFTER_FULL_BUILT(20, true, 0),
    FULL_AFTER_EMPTY_BUILT(0, true, 20);

    final boolean built;
    final int signals;
    private final int gatesAtFirst;

    State(int gatesAtFirst, boolean built, int gatesThen) {
        this.gatesAtFirst = gatesAtFirst;
        this.built = built;
        this.signals = 12 + gatesThen;
    }

    boolean full() {
        return signals == 32;
    }

    boolean empty() {
        return signals == 12;
    }

    /** In this state the call is refused and changes nothing. */
    void refuses(int due, String name, int... args) {
        Pair p = pair();
        p.refused(due, name, args);
        p.later();
    }

    /** In this state the call is taken, and what comes after it is as due. */
    void takes(int due, String name, int... args) {
        Pair p = pair();
        p.taken(due, name, args);
        p.later();
    }

    /** In this state the call is taken, and answers what the model answers, which is no refusal. */
    void takes(String name, int... args) {
        Pair p = pair();
        int answer = p.both(name, args);
        Check.due(this + ": " + name + " is taken", answer >= 0, true);
        p.later();
    }

    Pair pair() {
        Pair p = new Pair(toString());
        if (this == NEW) {
            return p;
        }
        resize(p, 12 + gatesAtFirst);
        wire(p);
        p.both("set", 4, 1);
        if (built) {
            p.both("build", 77);
            p.both("feed", 38);
            p.both("load", 1, 1);
            p.both("clock", 3);
        }
        resize(p, signals);
        // The circuit is other than the device from here on, so that a change in either shows.
        p.both("next", 1, 4);
        p.both("show", 2, 9);
        return p;
    }

    private static void resize(Pair p, int signals) {
        while (p.signals() > signals) {
            p.both("drop");
        }
        while (p.signals() < signals) {
            int s = p.signals();
            p.both("gate", s % 10, s - 1, s * 5 % 12, 14 % (s - 2));
        }
    }

    private static void wire(Pair p) {
        int last = p.signals() - 1;
        for (int r = 0; r < 6; r++) {
            p.both("next", r, last - r);
        }
        for (int o = 0; o < 4; o++) {
            p.both("show", o, last - 2 * o);
        }
    }
}
