// Long runs of calls, each answer compared with that of a model which follows the document's words.
public final class ModelTest extends Check {
    private static final int RUNS = 4000;
    private static final int MOST_CALLS = 512;
    private static final int CALLS_TO_LOOK = 16 + 16 + 16 * 6;

    private static long seed = 20261115L;

    // A row of numbers of its own, so that every run of the test makes the same calls.
    private static int next(int bound) {
        seed = seed * 6364136223846793005L + 1442695040888963407L;
        return (int) ((seed >>> 33) % bound);
    }

    /** Most often a number from least to most, now and then one outside. */
    private static int pick(int least, int most) {
        if (next(40) != 0) {
            return least + next(most - least + 1);
        }
        int[] odd = {least - 1, most + 1, MIN, MAX, most + 32, -32};
        return odd[next(odd.length)];
    }

    private static Call anyCall(int size) {
        int o = pick(0, size);
        int q = pick(0, size);
        int p = pick(0, 5);
        int r = pick(0, 3);
        int on = next(2) * (next(5) - 2);
        return switch (next(26)) {
            case 0, 1, 2, 3 -> new Call("create", o, q);
            case 4 -> new Call("remove", o);
            case 5, 6 -> new Call("move", o, q);
            case 7 -> new Call("parentOf", o);
            case 8 -> new Call("close", o, on);
            case 9, 10 -> new Call("member", pick(6, 7), p, on);
            case 11, 12, 13, 14, 15 -> new Call("entry", o, pick(0, 7), pick(0, 15), pick(0, 15));
            case 16, 17 -> new Call("drop", o, pick(0, 3));
            case 18 -> new Call("entries", o);
            case 19 -> new Call("rights", o, p);
            case 20 -> new Call("may", o, p, r);
            case 21 -> new Call("who", o, r);
            case 22 -> new Call("count", p, r);
            case 23 -> new Call("reach", p);
            default -> new Call("stir", o);
        };
    }

    private static void compare(String when, Call call, AclInherit x, Model m) {
        due(when + ": " + call, call.on(x), call.on(m));
    }

    private static void lookAtAll(String when, AclInherit x, Model m) {
        for (int o = 0; o < 16; o++) {
            compare(when, new Call("parentOf", o), x, m);
            compare(when, new Call("entries", o), x, m);
            for (int p = 0; p < 6; p++) {
                compare(when, new Call("rights", o, p), x, m);
            }
        }
    }

    private static void longRuns() {
        for (int run = 1; run <= RUNS; run++) {
            AclInherit x = new AclInherit();
            Model m = new Model();
            // Runs over few objects fill them with entries; runs over many make deep trees.
            int size = 2 + next(14);
            int calls = 1 + next(MOST_CALLS - CALLS_TO_LOOK);
            for (int number = 1; number <= calls; number++) {
                compare("run " + run + ", call " + number, anyCall(size), x, m);
            }
            lookAtAll("run " + run + " at its end", x, m);
        }
    }

    public static void main(String[] args) {
        runAll(ModelTest.class);
    }
}
