import java.util.List;

// The sentences of the document under "What it is" and "Terms", and the boundary cases that they name:
// above the methods for each sentence stand the document's words. That no call throws and a refused
// one changes nothing is StateTest's.
public final class TermsBoundaryTest extends Check {

    // "An object is used for at most 512 calls after it has been made"

    private static void the512thCallAfterManyEntries() {
        AclInherit x = new AclInherit();
        for (int call = 1; call < 511; call += 2) {
            due("call " + call + ": entry(0, 3, 15, 8)", x.entry(0, 3, 15, ALLOW), 1);
            due("call " + (call + 1) + ": drop(0, 0)", x.drop(0, 0), 0);
        }
        due("call 511: entry(0, 3, 10, 8)", x.entry(0, 3, 10, ALLOW), 1);
        due("call 512: rights(0, 3)", x.rights(0, 3), 10);
    }

    private static void the512thCallAfterManyObjects() {
        AclInherit x = new AclInherit();
        for (int round = 0; round < 255; round++) {
            int o = 1 + round % 15;
            due("round " + round + ": create", x.create(o, 0), 0);
            due("round " + round + ": remove", x.remove(o), 0);
        }
        due("call 511: create(15, 0)", x.create(15, 0), 0);
        due("call 512: parentOf(15)", x.parentOf(15), 0);
    }

    private static void the512thCallAfterManyRefusals() {
        AclInherit x = new AclInherit();
        fill(x, 0);
        for (int call = 5; call < 512; call++) {
            due("call " + call + ": entry(0, 1, 15, 8)", x.entry(0, 1, 15, ALLOW), FULL);
        }
        due("call 512: entries(0)", x.entries(0), 4);
    }

    private static void the512thCallAfterManyChanges() {
        AclInherit x = chain(15);
        due("call 16: entry(0, 7, 9, 9)", x.entry(0, 7, 9, ALLOW | PASSED_ON), 1);
        for (int round = 0; round < 123; round++) {
            due("round " + round + ": member in", x.member(7, 5, 1), 0);
            due("round " + round + ": close", x.close(15, 1), 0);
            due("round " + round + ": open", x.close(15, 0), 1);
            due("round " + round + ": member out", x.member(7, 5, 0), 1);
        }
        due("call 509: move(15, 0)", x.move(15, 0), 14);
        due("call 510: member(7, 5, 1)", x.member(7, 5, 1), 0);
        due("call 511: reach(5)", x.reach(5), 16);
        due("call 512: stir(1)", x.stir(1), 14);
    }

    private static void the512thCallAfterOneCallAgainAndAgain() {
        List<Call> before = List.of(new Call("create", 1, 0), new Call("create", 2, 1),
            new Call("member", 6, 0, 1), new Call("entry", 0, 6, 13, ALLOW + PASSED_ON),
            new Call("entry", 1, 0, 4, DENY), new Call("close", 2, 1));
        List<Call> calls = List.of(new Call("create", 3, 1), new Call("remove", 2), new Call("remove", 1),
            new Call("move", 2, 0), new Call("move", 1, 2), new Call("parentOf", 2), new Call("close", 1, 1),
            new Call("close", 1, 0), new Call("member", 6, 5, 1), new Call("member", 6, 0, 0),
            new Call("entry", 0, 5, 3, ALLOW), new Call("drop", 0, 0), new Call("entries", 0),
            new Call("rights", 0, 0), new Call("rights", 1, 0), new Call("may", 0, 0, 3), new Call("who", 0, 0),
            new Call("count", 0, 2), new Call("reach", 0), new Call("stir", 1), new Call("entries", 16));
        for (Call again : calls) {
            for (Call last : calls) {
                AclInherit x = new AclInherit();
                Model m = new Model();
                for (int number = 1; number <= 512; number++) {
                    Call call = number <= before.size() ? before.get(number - 1) : number < 512 ? again : last;
                    due("call " + number + ": " + call, call.on(x), call.on(m));
                }
            }
        }
    }

    // "PERSONS are 0 to 5"

    private static void personsAre0To5() {
        for (int p = 0; p <= 5; p++) {
            AclInherit x = new AclInherit();
            due("entry for person " + p, x.entry(0, p, 9, ALLOW), 1);
            due("rights of " + p, x.rights(0, p), 9);
            due("may " + p, x.may(0, p, 3), true);
            due("who", x.who(0, 0), 1 << p);
            due("count of " + p, x.count(p, 0), 1);
            due("reach of " + p, x.reach(p), 1);
            due("stir sees nothing to inherit", x.stir(0), 0);
            due(p + " into 6", x.member(6, p, 1), 0);
            due(p + " is in 6", x.member(6, p, 0), 1);
        }
    }

    private static void noPersonsBelow0AndAbove5() {
        for (int p : NOT_PERSONS) {
            AclInherit x = new AclInherit();
            due("rights of " + p, x.rights(0, p), BAD_ARG);
            due("may " + p, x.may(0, p, 0), false);
            due("count of " + p, x.count(p, 0), BAD_ARG);
            due("reach of " + p, x.reach(p), BAD_ARG);
            due(p + " into 6", x.member(6, p, 1), BAD_ARG);
            due(p + " out of 7", x.member(7, p, 0), BAD_ARG);
        }
    }

    // "GROUPS 6 and 7"

    private static void groupsAre6And7() {
        for (int g = 6; g <= 7; g++) {
            AclInherit x = new AclInherit();
            due("entry for group " + g, x.entry(0, g, 5, ALLOW), 1);
            due("4 into " + g, x.member(g, 4, 1), 0);
            due("rights by " + g, x.rights(0, 4), 5);
        }
        for (int g : NOT_GROUPS) {
            due("group " + g, new AclInherit().member(g, 0, 1), BAD_ARG);
        }
    }

    private static void aGroupIsNoPerson() {
        AclInherit x = new AclInherit();
        for (int g = 6; g <= 7; g++) {
            x.member(g, 0, 1);
            due("entry for " + g, x.entry(0, g, 15, ALLOW), g - 5);
            due("rights of " + g, x.rights(0, g), BAD_ARG);
            due("may " + g, x.may(0, g, 0), false);
            due("count of " + g, x.count(g, 0), BAD_ARG);
            due("reach of " + g, x.reach(g), BAD_ARG);
            due(g + " in a group", x.member(13 - g, g, 1), BAD_ARG);
            due(g + " in itself", x.member(g, g, 1), BAD_ARG);
        }
        due("who shows persons alone", x.who(0, 0), 1);
    }

    // "each group has a set of persons"

    private static void anEmptyGroupCoversNobody() {
        AclInherit x = new AclInherit();
        x.entry(0, 6, 15, ALLOW);
        x.entry(0, 7, 15, ALLOW);
        for (int r = 0; r < 4; r++) {
            due("who has right " + r, x.who(0, r), 0);
        }
        x.member(6, 2, 1);
        x.member(6, 2, 0);
        due("empty once more", x.who(0, 0), 0);
    }

    private static void aGroupOfAllCoversAll() {
        for (int g = 6; g <= 7; g++) {
            AclInherit x = new AclInherit();
            x.entry(0, g, 8, ALLOW);
            for (int p = 0; p < 6; p++) {
                due(p + " into " + g, x.member(g, p, 1), 0);
                due("those in " + g, x.who(0, 3), (2 << p) - 1);
            }
            for (int p = 0; p < 6; p++) {
                due(p + " out of " + g, x.member(g, p, 0), 1);
                due("those left in " + g, x.who(0, 3), 63 - ((2 << p) - 1));
            }
        }
    }

    private static void eachGroupHasASetOfItsOwn() {
        AclInherit x = new AclInherit();
        x.entry(0, 6, 1, ALLOW);
        x.entry(0, 7, 2, ALLOW);
        x.member(6, 0, 1);
        x.member(7, 5, 1);
        x.member(6, 3, 1);
        x.member(7, 3, 1);
        due("those in 6", x.who(0, 0), 1 + 8);
        due("those in 7", x.who(0, 1), 8 + 32);
        due("3 out of 7", x.member(7, 3, 0), 1);
        due("6 still has 3", x.who(0, 0), 1 + 8);
        due("7 has not", x.who(0, 1), 32);
    }

    private static void aSetHasAPersonOnce() {
        AclInherit x = new AclInherit();
        due("into 7", x.member(7, 1, 1), 0);
        due("into 7 again", x.member(7, 1, 1), 1);
        due("out of 7", x.member(7, 1, 0), 1);
        due("no longer in 7", x.member(7, 1, 0), 0);
    }

    // "A WHO is a person or a group"

    private static void aWhoIsAPersonOrAGroup() {
        for (int who = 0; who <= 7; who++) {
            due("entry for " + who, new AclInherit().entry(0, who, 1, ALLOW), 1);
        }
        for (int who : NOT_WHOS) {
            due("entry for " + who, new AclInherit().entry(0, who, 1, ALLOW), BAD_ARG);
        }
    }

    // "a who COVERS person p if it is p or a group that has p"

    private static void eachWhoCoversWhomItShould() {
        for (int who = 0; who <= 7; who++) {
            AclInherit x = new AclInherit();
            x.member(6, 1, 1);
            x.member(7, 4, 1);
            x.member(7, 0, 1);
            due("entry for " + who, x.entry(0, who, 4, ALLOW), 1);
            int covered = who < 6 ? 1 << who : who == 6 ? 2 : 16 + 1;
            due("covered by " + who, x.who(0, 2), covered);
        }
    }

    // "RIGHTS are 0 to 3"

    private static void rightsAre0To3() {
        for (int r = 0; r <= 3; r++) {
            AclInherit x = new AclInherit();
            x.entry(0, 5, 1 << r, ALLOW);
            for (int other = 0; other <= 3; other++) {
                due("may " + other, x.may(0, 5, other), other == r);
                due("who " + other, x.who(0, other), other == r ? 32 : 0);
                due("count " + other, x.count(5, other), other == r ? 1 : 0);
            }
        }
    }

    private static void noRightsBelow0AndAbove3() {
        AclInherit x = new AclInherit();
        x.entry(0, 0, 15, ALLOW);
        for (int r : NOT_RIGHTS) {
            due("may " + r, x.may(0, 0, r), false);
            due("who " + r, x.who(0, r), BAD_ARG);
            due("count " + r, x.count(0, r), BAD_ARG);
        }
    }

    // "a set of rights is the number that has 2 to the power r added up for its rights r (0 to 15)"

    private static void everySetOfRightsFrom0To15() {
        for (int set = 0; set <= 15; set++) {
            AclInherit x = new AclInherit();
            due("allow " + set, x.entry(0, 0, set, ALLOW), 1);
            due("rights after allow " + set, x.rights(0, 0), set);
            due("allow the rest", x.entry(0, 0, 15, ALLOW), 2);
            due("deny " + set, x.entry(0, 0, set, DENY), 3);
            due("rights after deny " + set, x.rights(0, 0), 15 - set);
        }
    }

    private static void theEmptySetIsTakenAndDecidesNothing() {
        AclInherit x = chain(1);
        x.entry(0, 0, 6, ALLOW | PASSED_ON);
        due("deny nothing", x.entry(1, 0, 0, DENY), 1);
        due("allow nothing", x.entry(1, 0, 0, ALLOW), 2);
        due("the rights come from further on", x.rights(1, 0), 6);
        due("both take up room", x.entries(1), 2);
    }

    private static void noSetsBelow0AndAbove15() {
        AclInherit x = new AclInherit();
        for (int set : NOT_SETS) {
            due("allow " + set, x.entry(0, 0, set, ALLOW), BAD_ARG);
        }
        due("none was taken", x.entries(0), 0);
    }

    // "OBJECTS are 0 to 15"

    private static void objectsAre0To15() {
        AclInherit x = chain(15);
        for (int o = 0; o <= 15; o++) {
            due("entries of " + o, x.entries(o), 0);
            due("entry of " + o, x.entry(o, 0, 9, ALLOW), 1);
            due("rights on " + o, x.rights(o, 0), 9);
            due("may on " + o, x.may(o, 0, 3), true);
            due("who on " + o, x.who(o, 3), 1);
            due("stir of " + o, x.stir(o), 0);
            due("close " + o, x.close(o, 1), 0);
            due("open " + o, x.close(o, 0), 1);
            due("drop of " + o, x.drop(o, 0), 0);
        }
    }

    private static void noObjectsBelow0AndAbove15() {
        AclInherit x = chain(15);
        x.entry(0, 0, 15, ALLOW | PASSED_ON);
        for (int o : NOT_OBJECTS) {
            due("create " + o, x.create(o, 0), BAD_ARG);
            due("create below " + o, x.create(1, o), BAD_ARG);
            due("remove " + o, x.remove(o), BAD_ARG);
            due("move " + o, x.move(o, 0), BAD_ARG);
            due("move below " + o, x.move(1, o), BAD_ARG);
            due("parentOf " + o, x.parentOf(o), NONE);
            due("close " + o, x.close(o, 1), BAD_ARG);
            due("open " + o, x.close(o, 0), BAD_ARG);
            due("entry of " + o, x.entry(o, 0, 1, ALLOW), BAD_ARG);
            due("drop of " + o, x.drop(o, 0), BAD_ARG);
            due("entries of " + o, x.entries(o), BAD_ARG);
            due("rights on " + o, x.rights(o, 0), BAD_ARG);
            due("may on " + o, x.may(o, 0, 0), false);
            due("who on " + o, x.who(o, 0), BAD_ARG);
            due("stir of " + o, x.stir(o), BAD_ARG);
        }
    }

    // "Object 0 always stands"

    private static void object0AlwaysStands() {
        AclInherit x = new AclInherit();
        due("remove at first", x.remove(0), BAD_ARG);
        due("it stands", x.entries(0), 0);
        due("create it", x.create(0, 0), BAD_ARG);
        x.create(1, 0);
        due("remove it as a parent", x.remove(0), BAD_ARG);
        due("move it", x.move(0, 1), BAD_ARG);
        due("move it to itself", x.move(0, 0), BAD_ARG);
        x.remove(1);
        due("remove it when all below are gone", x.remove(0), BAD_ARG);
        due("it still stands", x.entries(0), 0);
        due("and can be a parent", x.create(1, 0), 0);
    }

    // "another object stands or not"

    private static void anotherObjectStandsOrNot() {
        for (int o = 1; o <= 15; o++) {
            AclInherit x = new AclInherit();
            due(o + " does not stand at first", x.entries(o), NONE);
            due("create " + o, x.create(o, 0), 0);
            due(o + " stands", x.entries(o), 0);
            due("remove " + o, x.remove(o), 0);
            due(o + " does not stand at last", x.entries(o), NONE);
        }
    }

    // "a standing object other than 0 has a PARENT, and following parents one always comes to object 0"

    private static int stepsTo0(AclInherit x, int o) {
        int at = o;
        int steps = 0;
        while (at > 0 && steps <= 16) {
            at = x.parentOf(at);
            steps++;
        }
        return at == 0 ? steps : -1;
    }

    private static void theDeepestTree() {
        AclInherit x = chain(15);
        for (int o = 0; o <= 15; o++) {
            due("steps from " + o, stepsTo0(x, o), o);
        }
    }

    private static void theDeepestTreeUpsideDown() {
        AclInherit x = new AclInherit();
        due("create 15", x.create(15, 0), 0);
        for (int o = 14; o >= 1; o--) {
            due("create " + o, x.create(o, o + 1), 0);
        }
        for (int o = 1; o <= 15; o++) {
            due("steps from " + o, stepsTo0(x, o), 16 - o);
        }
        due("15 below 1", x.move(15, 1), BELOW);
    }

    private static void theWidestTree() {
        AclInherit x = new AclInherit();
        x.entry(0, 0, 1, ALLOW | PASSED_ON);
        for (int o = 1; o <= 15; o++) {
            due("create " + o, x.create(o, 0), 0);
        }
        for (int o = 1; o <= 15; o++) {
            due("steps from " + o, stepsTo0(x, o), 1);
            due("rights on " + o, x.rights(o, 0), 1);
        }
        due("all can be gone to", x.reach(0), 16);
    }

    private static void noMovesMakeARing() {
        for (int first = 1; first <= 4; first++) {
            for (int under = 0; under <= 4; under++) {
                for (int second = 1; second <= 4; second++) {
                    for (int below = 0; below <= 4; below++) {
                        AclInherit x = chain(4);
                        x.move(first, under);
                        x.move(second, below);
                        for (int o = 1; o <= 4; o++) {
                            due("from " + o + " one comes to 0", stepsTo0(x, o) > 0, true);
                        }
                    }
                }
            }
        }
    }

    // "An object is CLOSED or open (open at first)"

    private static void openAtFirst() {
        AclInherit x = chain(15);
        x.entry(0, 0, 1, ALLOW | PASSED_ON);
        for (int o = 0; o <= 15; o++) {
            due("rights on " + o, x.rights(o, 0), 1);
        }
        for (int o = 0; o <= 15; o++) {
            due(o + " was open", x.close(o, 1), 0);
            due(o + " is closed", x.close(o, 1), 1);
        }
    }

    // "Each standing object has a list of at most 4 entries"

    private static void atMost4EntriesEach() {
        AclInherit x = chain(15);
        for (int o = 0; o <= 15; o++) {
            for (int n = 1; n <= 4; n++) {
                due("entry " + n + " of " + o, x.entry(o, 1, 1, DENY), n);
            }
        }
        for (int o = 0; o <= 15; o++) {
            due("a fifth of " + o, x.entry(o, 1, 1, DENY), FULL);
            due("entries of " + o, x.entries(o), 4);
        }
    }

    // "an entry has a kind (1 allows, 0 denies)"

    private static void kind0DeniesAndKind1Allows() {
        for (int flags = 0; flags <= 1; flags++) {
            AclInherit x = new AclInherit();
            x.entry(0, 0, 15, 8 + flags);
            due("allowed with flags " + flags, x.rights(0, 0), 15);
            x.entry(0, 0, 6, flags);
            due("denied with flags " + flags, x.rights(0, 0), 9);
        }
        AclInherit y = chain(1);
        due("7 is the last that denies", y.entry(0, 0, 3, 7), 1);
        due("15 is the last that allows", y.entry(0, 0, 15, 15), 2);
        due("rights below", y.rights(1, 0), 12);
        due("rights on it", y.rights(0, 0), 0);
        AclInherit z = new AclInherit();
        due("8 is the first that allows", z.entry(0, 0, 5, 8), 1);
        due("0 is the first that denies", z.entry(0, 0, 4, 0), 2);
        due("rights", z.rights(0, 0), 1);
    }

    // "FLAGS, the sum of 1 (passed on), 2 (not for itself) and 4 (one step only)"

    /** Whether an entry of object 0 with these flags is in the list of the object this far below. */
    private static boolean isInList(int flags, int steps) {
        if (steps == 0) {
            return (flags & NOT_FOR_ITSELF) == 0;
        }
        if (steps == 1) {
            return (flags & PASSED_ON) != 0;
        }
        return (flags & PASSED_ON) != 0 && (flags & ONE_STEP) == 0;
    }

    private static void everySumOfFlagsAllowing() {
        for (int flags = 0; flags <= 7; flags++) {
            AclInherit x = chain(15);
            x.entry(0, 5, 10, ALLOW + flags);
            for (int o = 0; o <= 15; o++) {
                due("flags " + flags + ", steps " + o, x.rights(o, 5), isInList(flags, o) ? 10 : 0);
            }
        }
    }

    private static void everySumOfFlagsDenying() {
        for (int flags = 0; flags <= 7; flags++) {
            AclInherit x = chain(15);
            x.entry(0, 5, 15, ALLOW + PASSED_ON);
            x.entry(0, 5, 10, DENY + flags);
            for (int o = 0; o <= 15; o++) {
                due("flags " + flags + ", steps " + o, x.rights(o, 5), isInList(flags, o) ? 5 : 15);
            }
        }
    }

    // "an entry has a kind (1 allows, 0 denies), a who, a set of rights and FLAGS, the sum of 1 (passed
    // on), 2 (not for itself) and 4 (one step only)"

    /** Group 6 has the persons 0 and 2, group 7 the persons 2, 3 and 5. */
    private static boolean isCovered(int who, int p) {
        return who < 6 ? who == p : ((who == 6 ? 1 + 4 : 4 + 8 + 32) >> p) % 2 == 1;
    }

    private static AclInherit chainWithGroups() {
        AclInherit x = chain(3);
        for (int p = 0; p < 6; p++) {
            x.member(6, p, isCovered(6, p) ? 1 : 0);
            x.member(7, p, isCovered(7, p) ? 1 : 0);
        }
        return x;
    }

    private static void everyEntryThatAllows() {
        for (int k = 0; k < 8 * 16 * 8; k++) {
            int who = k / 128;
            int rights = k / 8 % 16;
            int flags = k % 8;
            AclInherit x = chainWithGroups();
            due("entry(0, " + who + ", " + rights + ", 8 + " + flags + ")", x.entry(0, who, rights, 8 + flags), 1);
            for (int o = 0; o <= 3; o++) {
                for (int p = 0; p < 6; p++) {
                    boolean counts = isInList(flags, o) && isCovered(who, p);
                    due("allowed " + k + ": rights of " + p + " on " + o, x.rights(o, p), counts ? rights : 0);
                }
            }
        }
    }

    private static void everyEntryThatDenies() {
        for (int k = 0; k < 8 * 16 * 8; k++) {
            int who = k / 128;
            int rights = k / 8 % 16;
            int flags = k % 8;
            for (int p = 0; p < 6; p++) {
                AclInherit x = chainWithGroups();
                x.entry(0, p, 15, ALLOW + PASSED_ON);
                due("entry(0, " + who + ", " + rights + ", " + flags + ")", x.entry(0, who, rights, flags), 2);
                for (int o = 0; o <= 3; o++) {
                    boolean counts = isInList(flags, o) && isCovered(who, p);
                    due("denied " + k + ": rights of " + p + " on " + o, x.rights(o, p), counts ? 15 - rights : 15);
                }
            }
        }
    }

    // "first the entries of o itself without the flag 2: the denying ones in the order of o's list,
    // then the allowing ones in that order"

    private static void denyingOnesComeFirstFromAnyPlace() {
        for (int place = 0; place < 4; place++) {
            AclInherit x = new AclInherit();
            for (int i = 0; i < 4; i++) {
                x.entry(0, 2, i == place ? 3 : 15, i == place ? DENY : ALLOW);
            }
            due("one denies from place " + place, x.rights(0, 2), 12);
            AclInherit y = new AclInherit();
            for (int i = 0; i < 4; i++) {
                y.entry(0, 2, i == place ? 15 : 1 << i, i == place ? ALLOW : DENY);
            }
            due("one allows from place " + place, y.rights(0, 2), 1 << place);
        }
    }

    private static void ownEntriesWithTheFlag2AreLeftOut() {
        AclInherit x = new AclInherit();
        x.entry(0, 2, 15, ALLOW);
        x.entry(0, 2, 1, DENY + NOT_FOR_ITSELF);
        x.entry(0, 2, 2, DENY + ONE_STEP);
        x.entry(0, 3, 15, ALLOW + NOT_FOR_ITSELF);
        due("a denying one", x.rights(0, 2), 13);
        due("an allowing one", x.rights(0, 3), 0);
    }

    // "then, if o is open and not object 0: the entries of o's parent q with the flag 1: the denying
    // ones, then the allowing ones"

    private static void aClosedObjectHasItsOwnEntriesAlone() {
        for (int k = 1; k <= 15; k++) {
            AclInherit x = chain(k);
            x.entry(k - 1, 0, 1, ALLOW + PASSED_ON);
            x.entry(k, 0, 2, ALLOW);
            due(k + " open", x.rights(k, 0), 3);
            x.close(k, 1);
            due(k + " closed", x.rights(k, 0), 2);
        }
    }

    private static void object0HasItsOwnEntriesAloneOpenOrClosed() {
        AclInherit x = chain(1);
        x.entry(0, 0, 1, ALLOW + PASSED_ON);
        x.entry(0, 0, 2, ALLOW + PASSED_ON + NOT_FOR_ITSELF);
        x.entry(1, 0, 4, ALLOW + PASSED_ON);
        due("open", x.rights(0, 0), 1);
        x.close(0, 1);
        due("closed", x.rights(0, 0), 1);
        due("closed, it hands down all the same", x.rights(1, 0), 7);
    }

    private static void theParentHandsDownWithTheFlag1Alone() {
        AclInherit x = chain(1);
        x.entry(0, 0, 1, ALLOW + PASSED_ON);
        x.entry(0, 0, 2, ALLOW);
        x.entry(0, 0, 4, ALLOW + NOT_FOR_ITSELF);
        x.entry(0, 0, 8, ALLOW + ONE_STEP);
        due("flag 1 alone", x.rights(1, 0), 1);
        AclInherit y = chain(1);
        y.entry(0, 0, 1, ALLOW + PASSED_ON + NOT_FOR_ITSELF);
        y.entry(0, 0, 2, ALLOW + PASSED_ON + ONE_STEP);
        y.entry(0, 0, 4, ALLOW + PASSED_ON + NOT_FOR_ITSELF + ONE_STEP);
        y.entry(0, 0, 8, ALLOW + NOT_FOR_ITSELF + ONE_STEP);
        due("flag 1 with others", y.rights(1, 0), 7);
    }

    private static void theParentsDenyingOnesComeFirst() {
        AclInherit x = chain(1);
        x.entry(0, 0, 15, ALLOW + PASSED_ON);
        x.entry(0, 0, 1, DENY + PASSED_ON);
        x.entry(0, 0, 2, DENY + PASSED_ON + ONE_STEP);
        x.entry(0, 0, 4, DENY + PASSED_ON + NOT_FOR_ITSELF);
        due("rights below", x.rights(1, 0), 8);
        due("rights on it", x.rights(0, 0), 12);
    }

    private static void ownEntriesComeBeforeTheParents() {
        AclInherit x = chain(1);
        x.entry(0, 0, 3, DENY + PASSED_ON);
        x.entry(0, 0, 12, ALLOW + PASSED_ON);
        x.entry(1, 0, 1, ALLOW);
        x.entry(1, 0, 4, DENY);
        due("rights", x.rights(1, 0), 1 + 8);
    }

    // "then, if q is open and not object 0: the entries of q's parent with the flag 1 and without
    // the flag 4: the denying ones, then the allowing ones"

    private static void aClosedParentHandsDownItsOwnEntriesAlone() {
        AclInherit x = chain(2);
        x.entry(0, 0, 1, ALLOW + PASSED_ON);
        x.entry(1, 0, 2, ALLOW + PASSED_ON);
        x.entry(1, 0, 4, ALLOW + PASSED_ON + ONE_STEP);
        due("parent open", x.rights(2, 0), 7);
        x.close(1, 1);
        due("parent closed", x.rights(2, 0), 6);
    }

    private static void theFlag4EndsAfterOneStep() {
        AclInherit x = chain(3);
        x.entry(0, 0, 1, ALLOW + PASSED_ON + ONE_STEP);
        x.entry(1, 0, 2, ALLOW + PASSED_ON + ONE_STEP);
        x.entry(2, 0, 4, ALLOW + PASSED_ON + ONE_STEP);
        x.entry(3, 0, 8, ALLOW + PASSED_ON + ONE_STEP);
        due("on 0", x.rights(0, 0), 1);
        due("on 1", x.rights(1, 0), 3);
        due("on 2", x.rights(2, 0), 6);
        due("on 3", x.rights(3, 0), 12);
    }

    private static void theNearerObjectComesFirst() {
        AclInherit x = chain(3);
        x.entry(0, 0, 3, ALLOW + PASSED_ON);
        x.entry(0, 0, 12, DENY + PASSED_ON);
        x.entry(1, 0, 5, ALLOW + PASSED_ON);
        x.entry(1, 0, 10, DENY + PASSED_ON);
        x.entry(2, 0, 6, ALLOW + PASSED_ON);
        x.entry(2, 0, 1, DENY + PASSED_ON);
        due("on 0", x.rights(0, 0), 3);
        due("on 1", x.rights(1, 0), 5);
        due("on 2", x.rights(2, 0), 6);
        due("on 3", x.rights(3, 0), 6);
    }

    private static void theGrandparentsDenyingOnesComeFirst() {
        AclInherit x = chain(2);
        x.entry(0, 0, 15, ALLOW + PASSED_ON);
        x.entry(0, 0, 1, DENY + PASSED_ON);
        x.entry(0, 0, 2, DENY + PASSED_ON + ONE_STEP);
        x.entry(0, 0, 4, DENY + PASSED_ON + NOT_FOR_ITSELF);
        due("rights two below", x.rights(2, 0), 10);
    }

    // "and so on with the parent of that (flag 1 and not flag 4), as long as the object just left is
    // open and not object 0"

    private static void theListEndsBehindTheFirstClosedObject() {
        for (int k = 0; k <= 15; k++) {
            AclInherit x = chain(15);
            x.entry(0, 0, 1, ALLOW + PASSED_ON);
            x.entry(k, 0, 2, ALLOW + PASSED_ON);
            x.close(k, 1);
            for (int o = 0; o <= 15; o++) {
                int far = o < k || k == 0 ? 1 : 0;
                int near = o >= k ? 2 : 0;
                due(k + " closed, rights on " + o, x.rights(o, 0), far + near);
            }
        }
    }

    private static void theListOf15GoesUpTo0() {
        for (int from = 0; from <= 15; from++) {
            AclInherit x = chain(15);
            x.entry(from, 5, 8, ALLOW + PASSED_ON);
            for (int o = 0; o <= 15; o++) {
                due("from " + from + " to " + o, x.rights(o, 5), o >= from ? 8 : 0);
            }
        }
    }

    private static void aFullListAllTheWay() {
        AclInherit x = chain(15);
        for (int o = 15; o >= 1; o--) {
            for (int i = 0; i < 4; i++) {
                x.entry(o, 0, 14, DENY + PASSED_ON);
            }
        }
        x.entry(0, 1, 15, ALLOW + PASSED_ON);
        x.entry(0, 2, 15, ALLOW + PASSED_ON);
        x.entry(0, 3, 15, ALLOW + PASSED_ON);
        x.entry(0, 0, 15, ALLOW + PASSED_ON);
        due("the 64th entry decides right 0", x.rights(15, 0), 1);
        due("and here it is the first", x.rights(0, 0), 15);
    }

    // "Person p MAY do right r on object o if the first entry of o's list whose who covers p and
    // whose rights have r is there and allows"

    private static void noEntryThereMeansNo() {
        AclInherit x = new AclInherit();
        for (int r = 0; r < 4; r++) {
            due("empty list, right " + r, x.may(0, 0, r), false);
        }
        x.entry(0, 1, 15, ALLOW);
        due("no entry covers 0", x.may(0, 0, 0), false);
        x.entry(0, 0, 14, ALLOW);
        due("no entry has right 0", x.may(0, 0, 0), false);
        due("one has right 1", x.may(0, 0, 1), true);
    }

    private static void theFirstEntryDecidesEachRightByItself() {
        AclInherit x = chain(1);
        x.member(6, 0, 1);
        x.entry(1, 6, 1, DENY);
        x.entry(1, 0, 3, ALLOW);
        x.entry(0, 6, 7, ALLOW + PASSED_ON);
        x.entry(0, 0, 2, DENY + PASSED_ON);
        due("right 0: denied first", x.may(1, 0, 0), false);
        due("right 1: allowed first", x.may(1, 0, 1), true);
        due("right 2: allowed further on", x.may(1, 0, 2), true);
        due("right 3: nowhere", x.may(1, 0, 3), false);
    }

    private static void whatIsDecidedTwiceStaysAsDecidedFirst() {
        AclInherit x = chain(3);
        for (int o = 0; o <= 3; o++) {
            x.entry(o, 0, 1, DENY + PASSED_ON);
            x.entry(o, 0, 15, ALLOW + PASSED_ON);
            x.entry(o, 0, 2, DENY + PASSED_ON);
            x.entry(o, 0, 3, DENY + PASSED_ON);
        }
        for (int o = 0; o <= 3; o++) {
            due("rights on " + o, x.rights(o, 0), 12);
        }
    }

    private static void aPersonsEntryHasNoPrecedence() {
        AclInherit x = new AclInherit();
        x.member(6, 0, 1);
        x.member(7, 0, 1);
        x.entry(0, 0, 15, ALLOW);
        x.entry(0, 6, 1, DENY);
        x.entry(0, 7, 2, DENY);
        due("groups deny what the person is allowed", x.rights(0, 0), 12);
    }

    // "The constants: `BAD_ARG = -1`: An argument is out of its range."

    private static void badArg() {
        due("BAD_ARG", AclInherit.BAD_ARG, -1);
        AclInherit x = chain(1);
        due("create", x.create(16, 0), AclInherit.BAD_ARG);
        due("remove", x.remove(0), AclInherit.BAD_ARG);
        due("move", x.move(1, 16), AclInherit.BAD_ARG);
        due("close", x.close(16, 1), AclInherit.BAD_ARG);
        due("member", x.member(6, 6, 1), AclInherit.BAD_ARG);
        due("entry", x.entry(1, 0, 0, 16), AclInherit.BAD_ARG);
        due("drop", x.drop(16, 0), AclInherit.BAD_ARG);
        due("entries", x.entries(16), AclInherit.BAD_ARG);
        due("rights", x.rights(1, 6), AclInherit.BAD_ARG);
        due("who", x.who(1, 4), AclInherit.BAD_ARG);
        due("count", x.count(6, 0), AclInherit.BAD_ARG);
        due("reach", x.reach(6), AclInherit.BAD_ARG);
        due("stir", x.stir(16), AclInherit.BAD_ARG);
    }

    // "`FULL = -2`: The object has 4 entries."

    private static void full() {
        due("FULL", AclInherit.FULL, -2);
        AclInherit x = new AclInherit();
        fill(x, 0);
        due("entry", x.entry(0, 0, 0, 0), AclInherit.FULL);
    }

    // "`NONE = -3`: The object does not stand (or, for create, stands), or there is no such thing."

    private static void none() {
        due("NONE", AclInherit.NONE, -3);
        AclInherit x = chain(1);
        due("create", x.create(1, 0), AclInherit.NONE);
        due("create below", x.create(2, 3), AclInherit.NONE);
        due("remove", x.remove(2), AclInherit.NONE);
        due("move", x.move(2, 0), AclInherit.NONE);
        due("parentOf", x.parentOf(2), AclInherit.NONE);
        due("parentOf(0)", x.parentOf(0), AclInherit.NONE);
        due("parentOf(16)", x.parentOf(16), AclInherit.NONE);
        due("close", x.close(2, 1), AclInherit.NONE);
        due("entry", x.entry(2, 0, 0, 0), AclInherit.NONE);
        due("drop", x.drop(2, 0), AclInherit.NONE);
        due("drop, no such entry", x.drop(1, 0), AclInherit.NONE);
        due("entries", x.entries(2), AclInherit.NONE);
        due("rights", x.rights(2, 0), AclInherit.NONE);
        due("who", x.who(2, 0), AclInherit.NONE);
        due("stir", x.stir(2), AclInherit.NONE);
    }

    // "`BELOW = -4`: The object has objects below it, or the move would put it below itself."

    private static void below() {
        due("BELOW", AclInherit.BELOW, -4);
        AclInherit x = chain(3);
        due("remove", x.remove(1), AclInherit.BELOW);
        due("move to itself", x.move(1, 1), AclInherit.BELOW);
        due("move below itself", x.move(1, 3), AclInherit.BELOW);
    }

    public static void main(String[] args) {
        runAll(TermsBoundaryTest.class);
    }
}
