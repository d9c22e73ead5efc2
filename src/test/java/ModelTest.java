/** All promises at once: long mixed runs, the same each time, beside the model. */
public final class ModelTest {
    private static final int RUNS = 3000;

    private static long seed;
    private static int longestTail;
    private static int longestPeriod;

    public static void main(String[] args) {
        for (int run = 0; run < RUNS; run++) {
            seed = run;
            Pair p = new Pair("run " + run);
            // Some runs start with a full circuit, others grow theirs bit by bit.
            int opening = run % 3 == 0 ? 0 : 40;
            for (int call = 0; call < Pair.MOST_CALLS; call++) {
                int which = call < opening ? upTo(16) % 4 : upTo(24);
                step(which, p);
            }
        }
        System.out.println("longest tail " + longestTail + ", longest period " + longestPeriod);
        Check.due("the runs have long tails", longestTail >= 8, true);
        Check.due("the runs have long periods", longestPeriod >= 16, true);
        Check.end();
    }

    private static void step(int which, Pair p) {
        switch (which) {
            case 0, 1 -> p.both("gate", near(10), near(p.signals()), near(p.signals()), near(p.signals()));
            case 2, 4 -> p.both("next", near(6), near(p.signals()));
            case 3, 5 -> p.both("show", near(4), near(p.signals()));
            case 6 -> p.both("drop");
            case 7 -> p.both("signals");
            case 8, 9 -> p.both("build", near(1001));
            case 10 -> p.both("built");
            case 11, 12 -> p.both("set", near(6), near(2));
            case 13 -> p.both("inputs");
            case 14 -> p.both("clock", near(21));
            case 15 -> p.both("registers");
            case 16, 17 -> p.both("load", near(6), near(2));
            case 18 -> p.both("outputs");
            case 19, 20, 21 -> p.both("feed", near(64));
            case 22 -> longestTail = Math.max(longestTail, p.both("tail"));
            default -> longestPeriod = Math.max(longestPeriod, p.both("period"));
        }
    }

    // Mostly one of 0 .. count - 1, now and then one just outside or far off.
    private static int near(int count) {
        int luck = upTo(60);
        if (luck == 0) {
            return -1;
        }
        if (luck == 1) {
            return count;
        }
        if (luck == 2) {
            return upTo(2) == 0 ? Integer.MIN_VALUE : Integer.MAX_VALUE;
        }
        return upTo(count);
    }

    private static int upTo(int count) {
        seed = seed * 6364136223846793005L + 1442695040888963407L;
        return (int) ((seed >>> 33) % count);
    }
}
