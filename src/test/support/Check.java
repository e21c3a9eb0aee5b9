import java.lang.reflect.InvocationTargetException;
import java.lang.reflect.Method;
import java.lang.reflect.Modifier;
import java.util.Arrays;
import java.util.Comparator;

// What the tests share: the numbers of the document, and the comparing of answers with those due.
// The tests extend it, since a class without a package can't be imported from.
abstract class Check {
    static final int BAD_ARG = -1;
    static final int FULL = -2;
    static final int NONE = -3;
    static final int BELOW = -4;

    static final int MIN = Integer.MIN_VALUE;
    static final int MAX = Integer.MAX_VALUE;

    static final int DENY = 0;
    static final int ALLOW = 8;
    static final int PASSED_ON = 1;
    static final int NOT_FOR_ITSELF = 2;
    static final int ONE_STEP = 4;

    // The first numbers outside each range at both ends, the least and the greatest int, and numbers
    // that a shift, a mask or a cast to a shorter type would take for one inside.
    static final int[] NOT_OBJECTS = {MIN, -65536, -16, -1, 16, 17, 32, 256, 65536, MAX};
    static final int[] NOT_MOVABLE = {MIN, -65535, -15, -1, 0, 16, 17, 33, 257, 65537, MAX};
    static final int[] NOT_PERSONS = {MIN, -32, -1, 6, 7, 8, 32, 256, 65536, MAX};
    static final int[] NOT_GROUPS = {MIN, -26, -1, 0, 5, 8, 14, 38, 262, 65542, MAX};
    static final int[] NOT_WHOS = {MIN, -8, -1, 8, 9, 16, 40, 256, 65536, MAX};
    static final int[] NOT_RIGHTS = {MIN, -32, -1, 4, 5, 32, 256, 65536, MAX};
    static final int[] NOT_SETS = {MIN, -16, -1, 16, 17, 32, 256, 65536, MAX};
    static final int[] NOT_ZERO = {MIN, MIN + 1, -2, -1, 1, 2, 16, 256, 65536, 1 << 30, MAX - 1, MAX};

    private static final int MOST_LINES = 40;

    private static String test = "";
    private static int asked = 0;
    private static int wrong = 0;

    static void due(String call, int got, int want) {
        asked++;
        if (got != want) {
            fail(call + " answered " + got + ", due is " + want);
        }
    }

    static void due(String call, boolean got, boolean want) {
        due(call, got ? 1 : 0, want ? 1 : 0);
    }

    static void fail(String what) {
        wrong++;
        if (wrong <= MOST_LINES) {
            System.out.println(test + ": " + what);
        }
    }

    /** An object with 1 below 0, 2 below 1, and so on down to the given depth. */
    static AclInherit chain(int depth) {
        AclInherit x = new AclInherit();
        for (int o = 1; o <= depth; o++) {
            due("chain: create " + o, x.create(o, o - 1), 0);
        }
        return x;
    }

    /** Gives object o of x the four entries that fill it, all of them without an effect. */
    static void fill(AclInherit x, int o) {
        for (int n = 1; n <= 4; n++) {
            due("fill: entry " + n + " of " + o, x.entry(o, 0, 0, 0), n);
        }
    }

    /** Runs every test method of the class, so that none of them can be forgotten. */
    static void runAll(Class<?> tests) {
        Method[] methods = tests.getDeclaredMethods();
        Arrays.sort(methods, Comparator.comparing(Method::getName));
        int ran = 0;
        for (Method m : methods) {
            if (isTest(m)) {
                runOne(m);
                ran++;
            }
        }
        if (ran == 0) {
            fail("no tests in " + tests.getName());
        }
        System.out.println(wrong == 0
            ? ran + " tests, all " + asked + " answers are as due"
            : wrong + " answers are not as due");
        if (wrong != 0) {
            System.exit(1);
        }
    }

    private static boolean isTest(Method m) {
        return Modifier.isStatic(m.getModifiers()) && !m.isSynthetic()
            && m.getParameterCount() == 0 && m.getReturnType() == void.class;
    }

    private static void runOne(Method m) {
        test = m.getName();
        int before = asked;
        try {
            m.setAccessible(true);
            m.invoke(null);
        } catch (InvocationTargetException e) {
            fail("threw " + e.getCause());
        } catch (IllegalAccessException e) {
            fail("could not be run");
        }
        if (asked == before) {
            fail("compared no answer");
        }
    }
}
