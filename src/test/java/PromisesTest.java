// One method for each promise: ordinary inputs, the edges that the document names, and wrong inputs.
public final class PromisesTest extends Check {
    private static void constants() {
        due("BAD_ARG", AclInherit.BAD_ARG, BAD_ARG);
        due("FULL", AclInherit.FULL, FULL);
        due("NONE", AclInherit.NONE, NONE);
        due("BELOW", AclInherit.BELOW, BELOW);
    }

    private static void promise1NewObject() {
        AclInherit x = new AclInherit();
        due("1: entries(0)", x.entries(0), 0);
        for (int o = 1; o < 16; o++) {
            due("1: entries of " + o, x.entries(o), NONE);
        }
        for (int p = 0; p < 6; p++) {
            due("1: rights of " + p, x.rights(0, p), 0);
            due("1: 6 has " + p, x.member(6, p, 0), 0);
            due("1: 7 has " + p, x.member(7, p, 0), 0);
        }
        due("1: object 0 is open", x.close(0, 0), 0);

        AclInherit used = chain(3);
        used.member(6, 1, 1);
        used.entry(0, 6, 15, ALLOW | PASSED_ON);
        AclInherit fresh = new AclInherit();
        due("1: another object's entries", fresh.entries(0), 0);
        due("1: another object's tree", fresh.parentOf(1), NONE);
        due("1: another object's groups", fresh.member(6, 1, 0), 0);
    }

    private static void promise2Create() {
        AclInherit x = new AclInherit();
        due("2: create(15, 0)", x.create(15, 0), 0);
        due("2: parent of 15", x.parentOf(15), 0);
        due("2: create(1, 15)", x.create(1, 15), 0);
        due("2: parent of 1", x.parentOf(1), 15);
        due("2: entries of 1", x.entries(1), 0);
        due("2: 1 is open", x.close(1, 0), 0);

        for (int bad : NOT_MOVABLE) {
            due("2: create " + bad, x.create(bad, 0), BAD_ARG);
            due("2: create below what does not stand, " + bad, x.create(bad, 9), BAD_ARG);
        }
        for (int bad : NOT_OBJECTS) {
            due("2: create below " + bad, x.create(2, bad), BAD_ARG);
            due("2: create a standing one below " + bad, x.create(1, bad), BAD_ARG);
        }
        due("2: it stands", x.create(1, 0), NONE);
        due("2: refused, so the parent stays", x.parentOf(1), 15);
        due("2: below what does not stand", x.create(2, 3), NONE);
        due("2: below itself", x.create(2, 2), NONE);
        due("2: refused, so it does not stand", x.entries(2), NONE);
        due("2: both wrong", x.create(1, 3), NONE);
    }

    private static void promise2CreateAgain() {
        AclInherit x = chain(2);
        x.entry(0, 0, 1, ALLOW | PASSED_ON);
        x.entry(2, 0, 6, ALLOW);
        x.close(2, 1);
        due("2: before it goes", x.rights(2, 0), 6);
        due("2: remove(2)", x.remove(2), 0);
        due("2: create(2, 0) again", x.create(2, 0), 0);
        due("2: no entries of the earlier one", x.entries(2), 0);
        due("2: not closed like the earlier one", x.rights(2, 0), 1);
        due("2: close answers that it was open", x.close(2, 1), 0);
        due("2: the new parent", x.parentOf(2), 0);
        due("2: the first new entry", x.entry(2, 0, 8, ALLOW), 1);
        due("2: only the new entry", x.rights(2, 0), 8);
    }

    private static void promise2RefusedKeepsState() {
        AclInherit x = chain(1);
        x.entry(1, 2, 5, ALLOW);
        x.close(1, 1);
        due("2: refused", x.create(1, 0), NONE);
        due("2: the entries stay", x.entries(1), 1);
        due("2: the rights stay", x.rights(1, 2), 5);
        due("2: it stays closed", x.close(1, 1), 1);
    }

    private static void promise3Remove() {
        AclInherit x = chain(3);
        for (int bad : NOT_MOVABLE) {
            due("3: remove " + bad, x.remove(bad), BAD_ARG);
        }
        due("3: does not stand", x.remove(4), NONE);
        due("3: 1 is a parent", x.remove(1), BELOW);
        due("3: 2 is a parent", x.remove(2), BELOW);
        due("3: refused, so 2 stands", x.parentOf(2), 1);
        due("3: remove(3)", x.remove(3), 0);
        due("3: 3 is gone", x.entries(3), NONE);
        due("3: once more", x.remove(3), NONE);
        due("3: a gone child makes no parent", x.remove(2), 0);
        due("3: remove(1)", x.remove(1), 0);
        due("3: object 0 stays", x.entries(0), 0);
        due("3: nothing can be put below a gone one", x.create(5, 1), NONE);

        AclInherit y = chain(2);
        y.create(15, 2);
        due("3: a parent of 15 alone", y.remove(2), BELOW);
        y.move(15, 1);
        due("3: no longer a parent", y.remove(2), 0);
        due("3: a parent through a move", y.remove(1), BELOW);

        AclInherit z = new AclInherit();
        z.create(2, 0);
        z.create(1, 2);
        due("3: a parent of 1 alone", z.remove(2), BELOW);
    }

    private static void promise4Move() {
        AclInherit x = chain(4);
        x.create(9, 0);
        for (int bad : NOT_MOVABLE) {
            due("4: move " + bad, x.move(bad, 0), BAD_ARG);
            due("4: move below what does not stand, " + bad, x.move(bad, 8), BAD_ARG);
        }
        for (int bad : NOT_OBJECTS) {
            due("4: move below " + bad, x.move(1, bad), BAD_ARG);
            due("4: move what does not stand below " + bad, x.move(8, bad), BAD_ARG);
        }
        due("4: o does not stand", x.move(8, 0), NONE);
        due("4: q does not stand", x.move(1, 8), NONE);
        due("4: neither stands", x.move(7, 8), NONE);
        due("4: one that does not stand below itself", x.move(8, 8), NONE);
        due("4: below itself", x.move(2, 2), BELOW);
        due("4: below its child", x.move(2, 3), BELOW);
        due("4: below its child's child", x.move(2, 4), BELOW);
        due("4: refused, so the parent stays", x.parentOf(2), 1);
        due("4: to where it is", x.move(2, 1), 1);
        due("4: to another one", x.move(2, 9), 1);
        due("4: the parent now", x.parentOf(2), 9);
        due("4: what is below comes along", x.parentOf(3), 2);
        due("4: up", x.move(4, 0), 3);
        due("4: now 4 is not below 2", x.move(2, 4), 9);
        due("4: but 3 still is", x.move(4, 3), BELOW);
        due("4: what was above may go below", x.move(1, 3), 0);
    }

    private static void promise4MoveInDeepTree() {
        AclInherit x = chain(15);
        due("4: 1 below 15", x.move(1, 15), BELOW);
        due("4: 14 below 15", x.move(14, 15), BELOW);
        due("4: 15 below 0", x.move(15, 0), 14);
        due("4: 1 below 15 now", x.move(1, 15), 0);
        due("4: 15 below 14", x.move(15, 14), BELOW);
    }

    private static void promise4MoveKeepsTheRest() {
        AclInherit x = chain(2);
        x.create(3, 0);
        x.entry(2, 4, 3, ALLOW);
        x.entry(3, 4, 8, ALLOW | PASSED_ON);
        due("4: move(2, 3)", x.move(2, 3), 1);
        due("4: entries come along", x.entries(2), 1);
        due("4: own and new inherited rights", x.rights(2, 4), 11);
        x.close(2, 1);
        due("4: move(2, 1)", x.move(2, 1), 3);
        due("4: closed stays closed", x.close(2, 1), 1);
    }

    private static void promise5ParentOf() {
        AclInherit x = chain(15);
        for (int o = 1; o < 16; o++) {
            due("5: parent of " + o, x.parentOf(o), o - 1);
        }
        due("5: object 0", x.parentOf(0), NONE);
        for (int bad : NOT_OBJECTS) {
            due("5: parent of " + bad, x.parentOf(bad), NONE);
        }
        x.remove(15);
        due("5: a gone one", x.parentOf(15), NONE);
        due("5: one that never stood", new AclInherit().parentOf(3), NONE);
    }

    private static void promise6Close() {
        AclInherit x = chain(2);
        x.entry(0, 0, 1, ALLOW | PASSED_ON);
        for (int bad : NOT_OBJECTS) {
            due("6: close " + bad, x.close(bad, 1), BAD_ARG);
        }
        due("6: does not stand", x.close(3, 1), NONE);
        x.create(3, 0);
        due("6: refused, so a later one is open", x.close(3, 0), 0);
        due("6: open, closed with 1", x.close(1, 1), 0);
        due("6: 1 inherits nothing", x.rights(1, 0), 0);
        due("6: 2 inherits nothing through 1", x.rights(2, 0), 0);
        due("6: closed, closed with -1", x.close(1, -1), 1);
        due("6: still closed", x.rights(1, 0), 0);
        due("6: closed, opened", x.close(1, 0), 1);
        due("6: open, opened", x.close(1, 0), 0);
        due("6: 2 inherits again", x.rights(2, 0), 1);
        due("6: any number but 0 closes, MIN", x.close(1, MIN), 0);
        due("6: any number but 0 closes, 2", x.close(1, 2), 1);
        due("6: others stay open", x.close(2, 0), 0);
        due("6: object 0 can be closed", x.close(0, 1), 0);
        due("6: object 0 was closed", x.close(0, 0), 1);
        due("6: object 15 can be closed", chain(15).close(15, 256), 0);
    }

    private static void promise6ClosedStillHandsDown() {
        AclInherit x = chain(3);
        x.entry(0, 0, 1, ALLOW | PASSED_ON);
        x.entry(1, 0, 2, ALLOW | PASSED_ON);
        x.close(1, 1);
        due("6: a closed one keeps its own", x.rights(1, 0), 2);
        due("6: a closed one hands its own down", x.rights(2, 0), 2);
        due("6: and further down", x.rights(3, 0), 2);
        x.close(0, 1);
        x.close(1, 0);
        due("6: a closed object 0 hands down all the same", x.rights(3, 0), 3);
    }

    private static void promise7Member() {
        AclInherit x = new AclInherit();
        for (int bad : NOT_GROUPS) {
            due("7: group " + bad, x.member(bad, 0, 1), BAD_ARG);
        }
        for (int bad : NOT_PERSONS) {
            due("7: person " + bad, x.member(6, bad, 1), BAD_ARG);
            due("7: person " + bad + " out", x.member(7, bad, 0), BAD_ARG);
        }
        for (int p = 0; p < 6; p++) {
            due("7: refused calls put nobody in 6, " + p, x.member(6, p, 0), 0);
            due("7: refused calls put nobody in 7, " + p, x.member(7, p, 0), 0);
        }
        x.entry(0, 6, 1, ALLOW);
        x.entry(0, 7, 2, ALLOW);
        due("7: 0 into 6", x.member(6, 0, 1), 0);
        due("7: 5 into 7", x.member(7, 5, MIN), 0);
        due("7: 0 into 6 again", x.member(6, 0, 2), 1);
        due("7: 5 stays in 7", x.member(7, 5, -1), 1);
        due("7: 0 by 6", x.rights(0, 0), 1);
        due("7: 5 by 7", x.rights(0, 5), 2);
        due("7: 1 by none", x.rights(0, 1), 0);
        due("7: 0 into 7 too", x.member(7, 0, 1), 0);
        due("7: 0 by both", x.rights(0, 0), 3);
        due("7: 0 out of 6", x.member(6, 0, 0), 1);
        due("7: 0 out of 6 again", x.member(6, 0, 0), 0);
        due("7: 0 by 7", x.rights(0, 0), 2);
        due("7: 5 is still in 7", x.member(7, 5, 0), 1);
    }

    private static void promise8Entry() {
        AclInherit x = chain(1);
        for (int bad : NOT_OBJECTS) {
            due("8: object " + bad, x.entry(bad, 0, 1, ALLOW), BAD_ARG);
        }
        for (int bad : NOT_WHOS) {
            due("8: who " + bad, x.entry(0, bad, 1, ALLOW), BAD_ARG);
            due("8: who " + bad + " on what does not stand", x.entry(9, bad, 1, ALLOW), BAD_ARG);
        }
        for (int bad : NOT_SETS) {
            due("8: rights " + bad, x.entry(0, 0, bad, ALLOW), BAD_ARG);
            due("8: rights " + bad + " on what does not stand", x.entry(9, 0, bad, 8), BAD_ARG);
            due("8: kind and flags " + bad, x.entry(0, 0, 1, bad), BAD_ARG);
            due("8: kind and flags " + bad + " on what does not stand", x.entry(9, 0, 1, bad), BAD_ARG);
        }
        due("8: does not stand", x.entry(9, 0, 1, ALLOW), NONE);
        due("8: refused, so none is there", x.entries(0), 0);
        due("8: the least numbers", x.entry(0, 0, 0, 0), 1);
        due("8: the greatest numbers", x.entry(0, 7, 15, 15), 2);
        due("8: a third", x.entry(0, 0, 5, ALLOW), 3);
        due("8: a fourth", x.entry(0, 1, 10, ALLOW), 4);
        due("8: a fifth", x.entry(0, 2, 15, ALLOW), FULL);
        due("8: a wrong fifth", x.entry(0, 8, 15, ALLOW), BAD_ARG);
        due("8: still four", x.entries(0), 4);
        due("8: the third counts", x.rights(0, 0), 5);
        due("8: the fourth counts", x.rights(0, 1), 10);
        due("8: the fifth does not", x.rights(0, 2), 0);
        due("8: another object has room", x.entry(1, 3, 2, ALLOW), 1);
        due("8: and its own entries", x.rights(1, 3), 2);
    }

    private static void promise8EveryObjectHasFour() {
        AclInherit x = chain(15);
        for (int o = 0; o < 16; o++) {
            for (int i = 0; i < 4; i++) {
                due("8: entry " + i + " of " + o, x.entry(o, i, o, ALLOW), i + 1);
            }
        }
        for (int o = 0; o < 16; o++) {
            due("8: all entries of " + o, x.entries(o), 4);
            due("8: no more on " + o, x.entry(o, 0, 0, 0), FULL);
            for (int p = 0; p < 6; p++) {
                due("8: own rights of " + p + " on " + o, x.rights(o, p), p < 4 ? o : 0);
            }
        }
    }

    private static void promise9Drop() {
        AclInherit x = chain(15);
        for (int bad : NOT_OBJECTS) {
            due("9: object " + bad, x.drop(bad, 0), BAD_ARG);
        }
        due("9: no entries", x.drop(0, 0), NONE);
        for (int p = 0; p < 4; p++) {
            x.entry(15, p, 1 << p, ALLOW);
        }
        x.entry(14, 5, 15, ALLOW);
        due("9: no entry 4", x.drop(15, 4), NONE);
        due("9: no entry -1", x.drop(15, -1), NONE);
        due("9: no entry MIN", x.drop(15, MIN), NONE);
        due("9: no entry MAX", x.drop(15, MAX), NONE);
        due("9: refused, so four are there", x.entries(15), 4);
        due("9: drop the second", x.drop(15, 1), 3);
        due("9: the first stays", x.rights(15, 0), 1);
        due("9: the second is gone", x.rights(15, 1), 0);
        due("9: the third stays", x.rights(15, 2), 4);
        due("9: the fourth stays", x.rights(15, 3), 8);
        due("9: no entry 3 now", x.drop(15, 3), NONE);
        due("9: the last, that was the fourth", x.drop(15, 2), 2);
        due("9: it is gone", x.rights(15, 3), 0);
        due("9: the third has moved up", x.drop(15, 1), 1);
        due("9: so it is gone too", x.rights(15, 2), 0);
        due("9: the first", x.drop(15, 0), 0);
        due("9: nothing left", x.rights(15, 0), 0);
        due("9: no more", x.drop(15, 0), NONE);
        due("9: another object's entry stays", x.rights(14, 5), 15);
        x.remove(15);
        due("9: does not stand", x.drop(15, 0), NONE);
    }

    private static void promise9DropMovesWholeEntries() {
        AclInherit x = chain(2);
        x.entry(0, 0, 15, ALLOW | PASSED_ON);
        x.entry(0, 1, 6, DENY | PASSED_ON);
        x.entry(0, 1, 15, ALLOW | PASSED_ON | ONE_STEP);
        x.entry(0, 2, 7, ALLOW | NOT_FOR_ITSELF | PASSED_ON);
        due("9: drop the first of four", x.drop(0, 0), 3);
        due("9: 0 has nothing", x.rights(0, 0), 0);
        due("9: 1 on 0", x.rights(0, 1), 9);
        due("9: 1 on 1", x.rights(1, 1), 9);
        due("9: 1 on 2", x.rights(2, 1), 0);
        due("9: 2 on 0", x.rights(0, 2), 0);
        due("9: 2 on 2", x.rights(2, 2), 7);
        due("9: room again", x.entry(0, 3, 1, ALLOW), 4);
        due("9: the new one counts", x.rights(0, 3), 1);
        x.entry(2, 3, 1, ALLOW);
        x.remove(2);
        due("9: a gone object that had an entry", x.drop(2, 0), NONE);
    }

    private static void promise10Entries() {
        AclInherit x = chain(1);
        for (int bad : NOT_OBJECTS) {
            due("10: object " + bad, x.entries(bad), BAD_ARG);
        }
        due("10: does not stand", x.entries(2), NONE);
        due("10: none", x.entries(1), 0);
        x.entry(1, 0, 0, 0);
        x.entry(1, 0, 0, 0);
        due("10: two", x.entries(1), 2);
        due("10: the parent's are not counted, nor the child's", x.entries(0), 0);
        x.drop(1, 0);
        due("10: one", x.entries(1), 1);
        x.remove(1);
        due("10: gone", x.entries(1), NONE);
    }

    private static void promise11RightsArguments() {
        AclInherit x = new AclInherit();
        x.entry(0, 0, 15, ALLOW);
        for (int bad : NOT_OBJECTS) {
            due("11: object " + bad, x.rights(bad, 0), BAD_ARG);
        }
        for (int bad : NOT_PERSONS) {
            due("11: person " + bad, x.rights(0, bad), BAD_ARG);
            due("11: person " + bad + " on what does not stand", x.rights(1, bad), BAD_ARG);
        }
        due("11: does not stand", x.rights(1, 0), NONE);
        due("11: all rights", x.rights(0, 0), 15);
    }

    private static void promise11RightsOrder() {
        AclInherit x = chain(2);
        x.member(6, 0, 1);
        x.entry(1, 0, 7, ALLOW);
        x.entry(1, 6, 2, DENY);
        due("11: a later denial of the same object wins", x.rights(1, 0), 5);
        x.entry(0, 0, 4, DENY | PASSED_ON);
        x.entry(0, 0, 8, ALLOW | PASSED_ON);
        x.entry(0, 6, 2, ALLOW | PASSED_ON);
        due("11: the nearer object wins over both kinds", x.rights(1, 0), 13);
        due("11: and what is not passed on stays behind", x.rights(2, 0), 10);
        due("11: no entry covers 1", x.rights(1, 1), 0);

        AclInherit y = chain(2);
        y.entry(0, 3, 15, ALLOW | PASSED_ON);
        y.entry(1, 3, 1, ALLOW | PASSED_ON);
        y.entry(1, 3, 3, DENY | PASSED_ON);
        due("11: in the parent too denials come first", y.rights(2, 3), 12);
        y.entry(0, 3, 8, DENY | PASSED_ON);
        due("11: and above the parent", y.rights(2, 3), 4);
        y.entry(2, 3, 2, ALLOW);
        due("11: an own entry comes before", y.rights(2, 3), 6);
        due("11: a denial without rights denies nothing", y.entry(2, 3, 0, DENY), 2);
        due("11: so the rights are as before", y.rights(2, 3), 6);
    }

    private static void promise11RightsFlags() {
        // The rights on objects 0, 1, 2 and 3 of a chain, for one entry on object 0 with these flags.
        int[][] wanted = {
            {15, 0, 0, 0},
            {15, 15, 15, 15},
            {0, 0, 0, 0},
            {0, 15, 15, 15},
            {15, 0, 0, 0},
            {15, 15, 0, 0},
            {0, 0, 0, 0},
            {0, 15, 0, 0},
        };
        for (int flags = 0; flags < 8; flags++) {
            AclInherit allowing = chain(3);
            allowing.entry(0, 2, 15, ALLOW | flags);
            AclInherit denying = chain(3);
            denying.entry(0, 2, 15, DENY | flags);
            for (int o = 0; o < 4; o++) {
                due("11: allowing flags " + flags + " on " + o, allowing.rights(o, 2), wanted[flags][o]);
                due("11: denying flags " + flags + " on " + o, denying.rights(o, 2), 0);
            }
            AclInherit both = chain(3);
            both.entry(0, 2, 15, ALLOW | PASSED_ON);
            both.entry(0, 2, 6, DENY | flags);
            for (int o = 0; o < 4; o++) {
                int left = wanted[flags][o] == 0 ? 15 : 9;
                due("11: denied with flags " + flags + " on " + o, both.rights(o, 2), left);
            }
        }
    }

    private static void promise11RightsInDeepTree() {
        AclInherit x = chain(15);
        x.entry(0, 4, 9, ALLOW | PASSED_ON);
        x.entry(14, 4, 2, ALLOW | PASSED_ON | ONE_STEP);
        x.entry(13, 4, 4, ALLOW | PASSED_ON | ONE_STEP);
        due("11: all the way from 0 to 15", x.rights(15, 4), 11);
        due("11: 14", x.rights(14, 4), 15);
        x.close(7, 1);
        due("11: 7 is closed, so 15 has less", x.rights(15, 4), 2);
        due("11: 6 has it still", x.rights(6, 4), 9);
    }

    private static void promise12May() {
        AclInherit x = chain(1);
        x.entry(1, 5, 10, ALLOW);
        due("12: right 0", x.may(1, 5, 0), false);
        due("12: right 1", x.may(1, 5, 1), true);
        due("12: right 2", x.may(1, 5, 2), false);
        due("12: right 3", x.may(1, 5, 3), true);
        due("12: another person", x.may(1, 4, 1), false);
        due("12: another object", x.may(0, 5, 1), false);
        x.entry(1, 5, 8, DENY);
        due("12: denied", x.may(1, 5, 3), false);

        AclInherit y = chain(15);
        for (int p = 0; p < 6; p++) {
            y.member(6, p, 1);
        }
        y.entry(0, 6, 15, ALLOW | PASSED_ON);
        for (int bad : NOT_OBJECTS) {
            due("12: object " + bad, y.may(bad, 0, 0), false);
        }
        for (int bad : NOT_PERSONS) {
            due("12: person " + bad, y.may(0, bad, 0), false);
        }
        for (int bad : NOT_RIGHTS) {
            due("12: right " + bad, y.may(0, 0, bad), false);
        }
        due("12: 15 stands", y.may(15, 0, 0), true);
        y.remove(15);
        due("12: 15 does not stand", y.may(15, 0, 0), false);
    }

    private static void promise13Who() {
        AclInherit x = chain(1);
        for (int bad : NOT_OBJECTS) {
            due("13: object " + bad, x.who(bad, 0), BAD_ARG);
        }
        for (int bad : NOT_RIGHTS) {
            due("13: right " + bad, x.who(0, bad), BAD_ARG);
            due("13: right " + bad + " on what does not stand", x.who(9, bad), BAD_ARG);
        }
        due("13: does not stand", x.who(9, 0), NONE);
        due("13: nobody", x.who(0, 0), 0);
        x.member(7, 0, 1);
        x.member(7, 3, 1);
        x.member(7, 5, 1);
        x.entry(0, 7, 12, ALLOW | PASSED_ON);
        x.entry(0, 1, 8, ALLOW);
        x.entry(1, 3, 8, DENY);
        due("13: right 2 on 0", x.who(0, 2), 41);
        due("13: right 3 on 0", x.who(0, 3), 43);
        due("13: right 3 on 1", x.who(1, 3), 33);
        due("13: right 0 on 0", x.who(0, 0), 0);
    }

    private static void promise14Count() {
        AclInherit x = chain(15);
        for (int bad : NOT_PERSONS) {
            due("14: person " + bad, x.count(bad, 0), BAD_ARG);
        }
        for (int bad : NOT_RIGHTS) {
            due("14: right " + bad, x.count(0, bad), BAD_ARG);
        }
        due("14: nowhere", x.count(0, 0), 0);
        x.entry(0, 0, 9, ALLOW | PASSED_ON);
        due("14: everywhere", x.count(0, 0), 16);
        due("14: everywhere, right 3", x.count(0, 3), 16);
        due("14: another right", x.count(0, 1), 0);
        due("14: another person", x.count(1, 0), 0);
        x.remove(15);
        due("14: a gone one does not count", x.count(0, 0), 15);
        x.close(10, 1);
        due("14: above 10 only", x.count(0, 0), 10);
        x.entry(12, 0, 1, ALLOW);
        due("14: and 12", x.count(0, 0), 11);
        x.entry(3, 0, 1, DENY);
        due("14: but not 3", x.count(0, 0), 10);
    }

    private static void promise15Reach() {
        AclInherit x = chain(15);
        for (int bad : NOT_PERSONS) {
            due("15: person " + bad, x.reach(bad), BAD_ARG);
        }
        due("15: nowhere", x.reach(2), 0);
        x.entry(0, 2, 1, ALLOW | PASSED_ON);
        due("15: everywhere", x.reach(2), 16);
        due("15: another person", x.reach(3), 0);
        x.entry(6, 2, 1, DENY);
        due("15: not to 6, nor below it", x.reach(2), 6);
        due("15: though allowed below it", x.count(2, 0), 15);
        x.drop(6, 0);
        x.entry(6, 2, 14, DENY | PASSED_ON);
        due("15: only right 0 counts", x.reach(2), 16);
        x.remove(15);
        due("15: a gone one does not count", x.reach(2), 15);
        x.entry(0, 2, 1, DENY);
        due("15: not even to object 0", x.reach(2), 0);

        AclInherit y = new AclInherit();
        y.create(9, 0);
        y.create(1, 9);
        y.create(2, 0);
        y.entry(0, 4, 1, ALLOW);
        y.entry(1, 4, 1, ALLOW);
        due("15: 1 is shut off by its parent 9", y.reach(4), 1);
        y.entry(9, 4, 1, ALLOW);
        due("15: a parent of a greater number", y.reach(4), 3);
        y.entry(0, 4, 14, ALLOW | PASSED_ON);
        due("15: other rights do not help", y.reach(4), 3);
    }

    private static void promise16Stir() {
        AclInherit x = chain(3);
        for (int bad : NOT_OBJECTS) {
            due("16: object " + bad, x.stir(bad), BAD_ARG);
        }
        due("16: does not stand", x.stir(4), NONE);
        due("16: no entries, nothing stirs", x.stir(1), 0);
        x.member(6, 0, 1);
        x.member(6, 5, 1);
        x.entry(0, 6, 3, ALLOW | PASSED_ON);
        due("16: two persons on three objects", x.stir(1), 6);
        due("16: two persons on two objects", x.stir(2), 4);
        due("16: two persons on one object", x.stir(3), 2);
        due("16: object 0 inherits nothing", x.stir(0), 0);
        due("16: nothing was changed", x.rights(3, 5), 3);
        due("16: 1 is still open", x.close(1, 1), 0);
        due("16: opening stirs as much", x.stir(1), 6);
        due("16: 1 is still closed", x.close(1, 1), 1);
        due("16: behind a closed one nothing stirs", x.stir(2), 0);
        x.close(0, 1);
        due("16: a closed object 0", x.stir(0), 0);
        due("16: and it stops nothing", x.stir(1), 6);
    }

    private static void promise16StirComparesRights() {
        AclInherit x = chain(2);
        x.entry(0, 1, 1, ALLOW | PASSED_ON);
        x.entry(1, 1, 1, ALLOW | PASSED_ON);
        due("16: the same right from nearer by", x.stir(1), 0);
        due("16: 2 would lose it", x.stir(2), 1);
        x.entry(0, 1, 8, DENY | PASSED_ON);
        due("16: a denial alone makes no other rights", x.stir(1), 0);
        x.entry(0, 1, 6, ALLOW | PASSED_ON | ONE_STEP);
        due("16: one step only", x.stir(1), 1);
        x.entry(2, 1, 1, ALLOW);
        due("16: an own entry keeps the right", x.stir(2), 0);

        AclInherit y = chain(2);
        y.entry(0, 4, 15, ALLOW | PASSED_ON);
        y.create(15, 1);
        due("16: all below count", y.stir(1), 3);
        y.remove(15);
        due("16: a gone one does not", y.stir(1), 2);

        AclInherit z = chain(15);
        for (int p = 0; p < 6; p++) {
            z.member(7, p, 1);
        }
        z.entry(0, 7, 8, ALLOW | PASSED_ON);
        due("16: all persons on all objects but 0", z.stir(1), 90);
        due("16: all persons on 15", z.stir(15), 6);
    }

    public static void main(String[] args) {
        runAll(PromisesTest.class);
    }
}
