import java.util.ArrayList;
import java.util.Arrays;
import java.util.HashSet;
import java.util.List;
import java.util.Set;
import java.util.function.Consumer;
import java.util.function.Supplier;
import java.util.function.ToIntFunction;

// "No call ever throws. A refused call answers the code named and changes nothing.": for each promise
// the call with all its edge arguments, in several states. Each answer is compared with the model's;
// an object after a refused call is compared with one that never got the call, and after a call that
// was taken with the model, so that it changes what its promise says and no more.
public final class StateTest extends Check {
    private static final int[] OBJECTS =
        {MIN, -1, 0, 1, 2, 3, 4, 5, 6, 7, 8, 9, 10, 11, 12, 13, 14, 15, 16, MAX};
    private static final int[] FEW_OBJECTS = {MIN, -1, 0, 1, 3, 8, 9, 10, 15, 16, MAX};
    private static final int[] PERSONS = {MIN, -1, 0, 1, 2, 3, 4, 5, 6, MAX};
    private static final int[] GROUPS = {MIN, -1, 0, 5, 6, 7, 8, MAX};
    private static final int[] WHOS = {MIN, -1, 0, 7, 8, MAX};
    private static final int[] RIGHTS = {MIN, -1, 0, 1, 2, 3, 4, MAX};
    private static final int[] SETS = {MIN, -1, 0, 15, 16, MAX};
    private static final int[] PLACES = {MIN, -1, 0, 1, 2, 3, 4, 5, MAX};
    private static final int[] SWITCHES = {MIN, -1, 0, 1, MAX};

    private static final int[] WIDE = {
        MIN, MIN + 1, -(1 << 30), -65536, -256, -64, -33, -32, -31, -17, -16, -15, -9, -8, -7, -5, -4, -3, -2,
        -1, 0, 1, 2, 3, 4, 5, 6, 7, 8, 9, 10, 11, 12, 13, 14, 15, 16, 17, 31, 32, 33, 63, 64, 65, 255, 256,
        65535, 65536, 1 << 30, MAX - 1, MAX};
    private static final int[] NARROW = {MIN, -32, -16, -1, 0, 3, 4, 5, 6, 7, 8, 15, 16, 32, 64, MAX};

    /** The calls that bring a new object into a state, and what to call that state. */
    private record State(String name, List<Call> calls) {
        AclInherit built() {
            AclInherit x = new AclInherit();
            for (Call call : calls) {
                call.on(x);
            }
            return x;
        }

        Model modelled() {
            Model m = new Model();
            for (Call call : calls) {
                call.on(m);
            }
            return m;
        }

        int[][] seenAfter(List<Call> more) {
            return lookEachWay(() -> {
                AclInherit x = built();
                return call -> call.on(x);
            }, more);
        }

        int[][] dueAfter(List<Call> more) {
            return lookEachWay(() -> {
                Model m = modelled();
                return call -> call.on(m);
            }, more);
        }
    }

    private static List<State> states() {
        return List.of(
            new State("a new object", List.of()),
            new State("the mixed state", mixed()),
            new State("the full state", allFull()));
    }

    /** Deep and wide, with closed, full, empty and gone objects, and entries of every kind and flag. */
    private static List<Call> mixed() {
        int[][] tree = {{1, 0}, {2, 1}, {3, 2}, {4, 3}, {15, 4}, {5, 1}, {6, 5}, {9, 4}, {8, 0}};
        int[][] entries = {
            {0, 6, 15, 9}, {0, 7, 2, 1}, {0, 3, 8, 13},
            {1, 2, 5, 11}, {1, 6, 4, 3}, {1, 7, 8, 10}, {1, 0, 1, 5},
            {2, 4, 15, 8}, {2, 5, 1, 15},
            {4, 1, 6, 12},
            {5, 0, 9, 7},
            {6, 3, 15, 14}, {6, 7, 3, 9}, {6, 4, 12, 0},
            {15, 0, 1, 8}, {15, 1, 2, 8}, {15, 2, 4, 2}, {15, 3, 8, 4},
            {9, 0, 15, 9}, {9, 1, 15, 9}, {9, 2, 15, 9}, {9, 3, 15, 9},
            {8, 0, 15, 9}, {8, 5, 15, 1}};
        List<Call> calls = new ArrayList<>();
        for (int[] each : tree) {
            calls.add(new Call("create", each));
        }
        for (int[] each : entries) {
            calls.add(new Call("entry", each));
        }
        for (int[] each : new int[][] {{6, 0, 1}, {6, 1, 1}, {7, 1, 1}, {7, 5, 1}}) {
            calls.add(new Call("member", each));
        }
        for (int o : new int[] {2, 6, 9}) {
            calls.add(new Call("close", o, 1));
        }
        calls.add(new Call("remove", 9));
        calls.add(new Call("remove", 8));
        return calls;
    }

    /** All objects stand in one line, each with four entries, and both groups have everybody. */
    private static List<Call> allFull() {
        List<Call> calls = new ArrayList<>();
        for (int o = 1; o <= 15; o++) {
            calls.add(new Call("create", o, o - 1));
        }
        for (int o = 0; o <= 15; o++) {
            for (int i = 0; i < 4; i++) {
                calls.add(new Call("entry", o, (o + 2 * i) % 8, (5 * o + 3 * i + 1) % 16, (7 * o + 5 * i) % 16));
            }
        }
        for (int p = 0; p < 6; p++) {
            calls.add(new Call("member", 6, p, 1));
            calls.add(new Call("member", 7, p, 1));
        }
        calls.add(new Call("close", 12, 1));
        calls.add(new Call("close", 0, 1));
        return calls;
    }

    // What can be seen of an object. To see all of it the object has to be used up, and within its
    // 512 calls only a part can be seen, so there are several ways to look, each on a new object.

    private static final List<List<Call>> WAYS_TO_LOOK =
        List.of(askForTreeAndGroups(), askForEntries(0), askForEntries(1), askForEntries(2));

    private static List<Call> askForTreeAndGroups() {
        List<Call> calls = new ArrayList<>();
        for (int o = 0; o <= 15; o++) {
            calls.add(new Call("parentOf", o));
            calls.add(new Call("entries", o));
            addWho(calls, o);
        }
        for (int p = 0; p < 6; p++) {
            calls.add(new Call("member", 6, p, 0));
            calls.add(new Call("member", 7, p, 0));
        }
        for (int o = 0; o <= 15; o++) {
            calls.add(new Call("close", o, 0));
            calls.add(new Call("create", o, 0));
            calls.add(new Call("entries", o));
            calls.add(new Call("close", o, 0));
        }
        return calls;
    }

    /** Takes away entry after entry from the deepest object upwards, and looks so far below it. */
    private static List<Call> askForEntries(int below) {
        List<Call> calls = new ArrayList<>();
        for (int o = 15; o >= 0; o--) {
            for (int i = 0; i < 4; i++) {
                calls.add(new Call("drop", o, 0));
                addWho(calls, o + below);
            }
        }
        return calls;
    }

    private static void addWho(List<Call> calls, int o) {
        for (int r = 0; r < 4; r++) {
            calls.add(new Call("who", o, r));
        }
    }

    private static int[] look(ToIntFunction<Call> used, List<Call> asked) {
        int[] seen = new int[asked.size()];
        for (int k = 0; k < seen.length; k++) {
            seen[k] = used.applyAsInt(asked.get(k));
        }
        return seen;
    }

    /** What is seen after the calls; each way to look gets an object, or a model, of its own. */
    private static int[][] lookEachWay(Supplier<ToIntFunction<Call>> makes, List<Call> before) {
        int[][] seen = new int[WAYS_TO_LOOK.size()][];
        for (int way = 0; way < seen.length; way++) {
            ToIntFunction<Call> used = makes.get();
            for (Call call : before) {
                used.applyAsInt(call);
            }
            seen[way] = look(used, WAYS_TO_LOOK.get(way));
        }
        return seen;
    }

    /** Tries the calls in every state; each of the answers named must come about somewhere. */
    private static void tryAll(List<Call> calls, boolean onlyAsks, int... named) {
        Set<Integer> answers = new HashSet<>();
        for (State state : states()) {
            int[][] untouched = state.seenAfter(List.of());
            for (Call call : calls) {
                int answer = call.on(state.built());
                due(call + " on " + state.name(), answer, call.on(state.modelled()));
                answers.add(answer);
                int[][] touched = state.seenAfter(List.of(call));
                if (onlyAsks || answer < 0) {
                    boolean same = Arrays.deepEquals(touched, untouched);
                    due(call + " on " + state.name() + " leaves all as it was", same, true);
                } else {
                    boolean asDue = Arrays.deepEquals(touched, state.dueAfter(List.of(call)));
                    due(call + " on " + state.name() + " changes what it should and no more", asDue, true);
                }
            }
        }
        for (int answer : named) {
            due("the answer " + answer + " has come about", answers.contains(answer), true);
        }
    }

    private static List<Call> calls(String name, int[]... values) {
        List<Call> calls = new ArrayList<>();
        forEach(values, args -> calls.add(new Call(name, args)));
        return calls;
    }

    /** Every choice of one number out of each row of values. */
    private static void forEach(int[][] values, Consumer<int[]> what) {
        int choices = 1;
        for (int[] row : values) {
            choices *= row.length;
        }
        for (int choice = 0; choice < choices; choice++) {
            int[] args = new int[values.length];
            int rest = choice;
            for (int k = 0; k < values.length; k++) {
                args[k] = values[k][rest % values[k].length];
                rest /= values[k].length;
            }
            what.accept(args);
        }
    }

    // "A refused call answers the code named and changes nothing."

    private static void p02Create() {
        tryAll(calls("create", OBJECTS, OBJECTS), false, BAD_ARG, NONE, 0);
    }

    private static void p03Remove() {
        tryAll(calls("remove", OBJECTS), false, BAD_ARG, NONE, BELOW, 0);
    }

    private static void p04Move() {
        tryAll(calls("move", OBJECTS, OBJECTS), false, BAD_ARG, NONE, BELOW, 0, 14);
    }

    private static void p06Close() {
        tryAll(calls("close", OBJECTS, SWITCHES), false, BAD_ARG, NONE, 0, 1);
    }

    private static void p07Member() {
        tryAll(calls("member", GROUPS, PERSONS, SWITCHES), false, BAD_ARG, 0, 1);
    }

    private static void p08Entry() {
        tryAll(calls("entry", FEW_OBJECTS, WHOS, SETS, SETS), false, BAD_ARG, NONE, FULL, 1);
    }

    private static void p09Drop() {
        tryAll(calls("drop", OBJECTS, PLACES), false, BAD_ARG, NONE, 0, 3);
    }

    // Those that only ask change nothing at all.

    private static void p05ParentOfOnlyAsks() {
        tryAll(calls("parentOf", OBJECTS), true, NONE, 0, 14);
    }

    private static void p10EntriesOnlyAsks() {
        tryAll(calls("entries", OBJECTS), true, BAD_ARG, NONE, 0, 4);
    }

    private static void p11RightsOnlyAsks() {
        tryAll(calls("rights", OBJECTS, PERSONS), true, BAD_ARG, NONE, 0);
    }

    private static void p12MayOnlyAsks() {
        tryAll(calls("may", OBJECTS, PERSONS, RIGHTS), true, 0, 1);
    }

    private static void p13WhoOnlyAsks() {
        tryAll(calls("who", OBJECTS, RIGHTS), true, BAD_ARG, NONE, 0);
    }

    private static void p14CountOnlyAsks() {
        tryAll(calls("count", PERSONS, RIGHTS), true, BAD_ARG, 0);
    }

    private static void p15ReachOnlyAsks() {
        tryAll(calls("reach", PERSONS), true, BAD_ARG, 0);
    }

    private static void p16StirOnlyAsks() {
        tryAll(calls("stir", OBJECTS), true, BAD_ARG, NONE, 0);
    }

    // "No call ever throws."

    // It goes on past the 512th call: rule 7 of LANGUAGE.md asks this of every state.
    private static void neverThrows(String name, int[]... values) {
        for (State state : states()) {
            AclInherit x = state.built();
            forEach(values, args -> due(name + " with any arguments throws", throwsOn(x, new Call(name, args)), false));
        }
    }

    private static boolean throwsOn(AclInherit x, Call call) {
        try {
            call.on(x);
            return false;
        } catch (RuntimeException | StackOverflowError e) {
            fail(call + " threw " + e);
            return true;
        }
    }

    private static void noCallEverThrows() {
        for (String name : List.of("remove", "parentOf", "entries", "reach", "stir")) {
            neverThrows(name, WIDE);
        }
        for (String name : List.of("create", "move", "close", "drop", "rights", "who", "count")) {
            neverThrows(name, WIDE, WIDE);
        }
        for (String name : List.of("member", "may")) {
            neverThrows(name, WIDE, WIDE, NARROW);
        }
        neverThrows("entry", NARROW, NARROW, NARROW, NARROW);
    }

    public static void main(String[] args) {
        runAll(StateTest.class);
    }
}
