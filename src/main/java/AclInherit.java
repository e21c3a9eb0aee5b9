/**
 * Rights on a tree of objects: entries that allow or deny, groups, inheritance with its flags, and
 * what each person may do in the end.
 *
 * <p>A set of objects, persons or rights is held as a number with bit n for member n.
 */
public final class AclInherit {
    public static final int BAD_ARG = -1;
    public static final int FULL = -2;
    public static final int NONE = -3;
    public static final int BELOW = -4;

    private static final int OBJECTS = 16;
    private static final int PERSONS = 6;
    private static final int WHOS = 8;
    private static final int RIGHTS = 4;
    private static final int RIGHT_SETS = 16;
    private static final int MODES = 16;
    private static final int ENTRIES_EACH = 4;
    private static final int ENTRY_SLOTS = 64;

    private static final int ROOT = 0;
    private static final int GO_RIGHT = 0;

    // The bits of an entry's mode, which is its kindAndFlags as the caller gave it.
    private static final int PASSED_ON = 1;
    private static final int NOT_FOR_ITSELF = 2;
    private static final int ONE_STEP_ONLY = 4;
    private static final int ALLOWS = 8;

    private int standing;
    private int closed;
    private final int[] parent = new int[OBJECTS];

    // The persons that each who covers: a person always just itself, a group those put into it.
    private final int[] covered = new int[WHOS];

    // Entry i of object o is in slot ENTRIES_EACH * o + i.
    private final int[] entryCount = new int[OBJECTS];
    private final int[] entryWho = new int[ENTRY_SLOTS];
    private final int[] entryRights = new int[ENTRY_SLOTS];
    private final int[] entryMode = new int[ENTRY_SLOTS];

    public AclInherit() {
        standing = 1 << ROOT;
        closed = 0;
        for (int p = 0; p < PERSONS; p++) {
            covered[p] = 1 << p;
        }
    }

    public int create(int o, int q) {
        if (!isMovable(o) || !isObject(q)) {
            return BAD_ARG;
        }
        if (has(standing, o) || !has(standing, q)) {
            return NONE;
        }
        standing = with(standing, o, true);
        // What an earlier object of the same number left behind must not come back.
        closed = with(closed, o, false);
        entryCount[o] = 0;
        parent[o] = q;
        return 0;
    }

    public int remove(int o) {
        if (!isMovable(o)) {
            return BAD_ARG;
        }
        if (!has(standing, o)) {
            return NONE;
        }
        if (isParent(o)) {
            return BELOW;
        }
        standing = with(standing, o, false);
        return 0;
    }

    public int move(int o, int q) {
        if (!isMovable(o) || !isObject(q)) {
            return BAD_ARG;
        }
        if (!has(standing, o) || !has(standing, q)) {
            return NONE;
        }
        if (isAtOrBelow(q, o)) {
            return BELOW;
        }
        int before = parent[o];
        parent[o] = q;
        return before;
    }

    public int parentOf(int o) {
        if (!isMovable(o) || !has(standing, o)) {
            return NONE;
        }
        return parent[o];
    }

    public int close(int o, int on) {
        if (!isObject(o)) {
            return BAD_ARG;
        }
        if (!has(standing, o)) {
            return NONE;
        }
        int before = has(closed, o) ? 1 : 0;
        closed = with(closed, o, on != 0);
        return before;
    }

    public int member(int g, int p, int on) {
        if (!isGroup(g) || !isPerson(p)) {
            return BAD_ARG;
        }
        int before = has(covered[g], p) ? 1 : 0;
        covered[g] = with(covered[g], p, on != 0);
        return before;
    }

    public int entry(int o, int who, int rights, int kindAndFlags) {
        if (!isObject(o) || who < 0 || who >= WHOS) {
            return BAD_ARG;
        }
        if (rights < 0 || rights >= RIGHT_SETS || kindAndFlags < 0 || kindAndFlags >= MODES) {
            return BAD_ARG;
        }
        if (!has(standing, o)) {
            return NONE;
        }
        if (entryCount[o] >= ENTRIES_EACH) {
            return FULL;
        }
        int slot = ENTRIES_EACH * o + entryCount[o];
        entryWho[slot] = who;
        entryRights[slot] = rights;
        entryMode[slot] = kindAndFlags;
        entryCount[o]++;
        return entryCount[o];
    }

    public int drop(int o, int i) {
        if (!isObject(o)) {
            return BAD_ARG;
        }
        if (!has(standing, o) || i < 0 || i >= entryCount[o]) {
            return NONE;
        }
        int last = ENTRIES_EACH * o + entryCount[o] - 1;
        for (int slot = ENTRIES_EACH * o + i; slot < last; slot++) {
            entryWho[slot] = entryWho[slot + 1];
            entryRights[slot] = entryRights[slot + 1];
            entryMode[slot] = entryMode[slot + 1];
        }
        entryCount[o]--;
        return entryCount[o];
    }

    public int entries(int o) {
        if (!isObject(o)) {
            return BAD_ARG;
        }
        if (!has(standing, o)) {
            return NONE;
        }
        return entryCount[o];
    }

    public int rights(int o, int p) {
        if (!isObject(o) || !isPerson(p)) {
            return BAD_ARG;
        }
        if (!has(standing, o)) {
            return NONE;
        }
        return rightsIfClosed(o, p, closed);
    }

    public boolean may(int o, int p, int r) {
        if (!isObject(o) || !isPerson(p) || !isRight(r)) {
            return false;
        }
        return has(standing, o) && isAllowed(o, p, r);
    }

    public int who(int o, int r) {
        if (!isObject(o) || !isRight(r)) {
            return BAD_ARG;
        }
        if (!has(standing, o)) {
            return NONE;
        }
        int persons = 0;
        for (int p = 0; p < PERSONS; p++) {
            if (isAllowed(o, p, r)) {
                persons = with(persons, p, true);
            }
        }
        return persons;
    }

    public int count(int p, int r) {
        if (!isPerson(p) || !isRight(r)) {
            return BAD_ARG;
        }
        int found = 0;
        for (int o = 0; o < OBJECTS; o++) {
            if (has(standing, o) && isAllowed(o, p, r)) {
                found++;
            }
        }
        return found;
    }

    public int reach(int p) {
        if (!isPerson(p)) {
            return BAD_ARG;
        }
        int found = 0;
        for (int o = 0; o < OBJECTS; o++) {
            if (has(standing, o) && canGoTo(o, p)) {
                found++;
            }
        }
        return found;
    }

    public int stir(int o) {
        if (!isObject(o)) {
            return BAD_ARG;
        }
        if (!has(standing, o)) {
            return NONE;
        }
        int otherwise = closed ^ (1 << o);
        int found = 0;
        for (int at = 0; at < OBJECTS; at++) {
            if (has(standing, at)) {
                found += personsStirred(at, otherwise);
            }
        }
        return found;
    }

    private static boolean isObject(int o) {
        return o >= 0 && o < OBJECTS;
    }

    private static boolean isMovable(int o) {
        return o > ROOT && o < OBJECTS;
    }

    private static boolean isPerson(int p) {
        return p >= 0 && p < PERSONS;
    }

    private static boolean isGroup(int g) {
        return g >= PERSONS && g < WHOS;
    }

    private static boolean isRight(int r) {
        return r >= 0 && r < RIGHTS;
    }

    private static boolean has(int set, int n) {
        return ((set >> n) & 1) != 0;
    }

    /** The set with n in it if inside, else without n. */
    private static int with(int set, int n, boolean inside) {
        int single = 1 << n;
        return inside ? set | single : set & ~single;
    }

    private boolean isParent(int o) {
        for (int child = ROOT + 1; child < OBJECTS; child++) {
            if (has(standing, child) && parent[child] == o) {
                return true;
            }
        }
        return false;
    }

    private boolean isAtOrBelow(int o, int top) {
        int at = o;
        for (int step = 0; step < OBJECTS; step++) {
            if (at == top) {
                return true;
            }
            if (at == ROOT) {
                return false;
            }
            at = parent[at];
        }
        return false;
    }

    /** The rights named by those entries of o that cover p and whose mode, under mask, is wanted. */
    private int rightsNamed(int o, int p, int mask, int wanted) {
        int named = 0;
        int end = ENTRIES_EACH * o + entryCount[o];
        for (int slot = ENTRIES_EACH * o; slot < end; slot++) {
            if ((entryMode[slot] & mask) == wanted && has(covered[entryWho[slot]], p)) {
                named = named | entryRights[slot];
            }
        }
        return named;
    }

    /**
     * The rights of p on o if just the objects of closedSet were closed.
     *
     * <p>One object's denying entries all stand before its allowing ones, so it is enough to take
     * each object's denied rights as one set and then its allowed ones: a right once denied can't be
     * allowed from further up, and one once allowed stays so.
     */
    private int rightsIfClosed(int o, int p, int closedSet) {
        int allowed = 0;
        int denied = 0;
        int at = o;
        int mask = NOT_FOR_ITSELF;
        int wanted = 0;
        for (int step = 0; step < OBJECTS; step++) {
            int denies = rightsNamed(at, p, mask | ALLOWS, wanted);
            int allows = rightsNamed(at, p, mask | ALLOWS, wanted | ALLOWS);
            denied = denied | denies;
            allowed = allowed | (allows & ~denied);
            if (at == ROOT || has(closedSet, at)) {
                break;
            }
            at = parent[at];
            // An entry for one step only still comes to the object right below it.
            mask = step == 0 ? PASSED_ON : (PASSED_ON | ONE_STEP_ONLY);
            wanted = PASSED_ON;
        }
        return allowed;
    }

    private boolean isAllowed(int o, int p, int r) {
        int allowed = rightsIfClosed(o, p, closed);
        return has(allowed, r);
    }

    private boolean canGoTo(int o, int p) {
        int at = o;
        for (int step = 0; step < OBJECTS; step++) {
            if (!isAllowed(at, p, GO_RIGHT)) {
                return false;
            }
            if (at == ROOT) {
                return true;
            }
            at = parent[at];
        }
        return false;
    }

    private int personsStirred(int o, int otherClosed) {
        int found = 0;
        for (int p = 0; p < PERSONS; p++) {
            int now = rightsIfClosed(o, p, closed);
            int then = rightsIfClosed(o, p, otherClosed);
            if (now != then) {
                found++;
            }
        }
        return found;
    }
}
