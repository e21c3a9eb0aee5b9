// The sentences of the document under its promises, and the boundary cases that they name: above the
// methods for each sentence stand the document's words. That a refused call changes nothing is
// StateTest's.
public final class PromiseBoundaryTest extends Check {

    /** Objects 1 to 3 in a chain; 9 was there, full and closed, and is gone; all others never stood. */
    private static AclInherit withOneGone() {
        AclInherit x = chain(3);
        x.create(9, 3);
        fill(x, 9);
        x.close(9, 1);
        due("9 goes", x.remove(9), 0);
        return x;
    }

    // Promise 1: "Only object 0 stands, without entries; both groups are empty."

    private static void p01OnlyObject0Stands() {
        AclInherit x = new AclInherit();
        due("entries(0)", x.entries(0), 0);
        due("parentOf(0)", x.parentOf(0), NONE);
        for (int o = 1; o <= 15; o++) {
            due("entries of " + o, x.entries(o), NONE);
            due("parentOf " + o, x.parentOf(o), NONE);
            due("close " + o, x.close(o, 1), NONE);
            due("stir of " + o, x.stir(o), NONE);
            due("rights on " + o, x.rights(o, 0), NONE);
            due("remove " + o, x.remove(o), NONE);
        }
    }

    private static void p01WithoutEntries() {
        AclInherit x = new AclInherit();
        due("drop(0, 0)", x.drop(0, 0), NONE);
        due("the first entry", x.entry(0, 0, 0, 0), 1);
    }

    private static void p01NobodyMayDoAnything() {
        AclInherit x = new AclInherit();
        for (int p = 0; p < 6; p++) {
            due("rights of " + p, x.rights(0, p), 0);
            due("reach of " + p, x.reach(p), 0);
            due("count of " + p, x.count(p, 3), 0);
        }
        for (int r = 0; r < 4; r++) {
            due("who " + r, x.who(0, r), 0);
        }
        due("stir(0)", x.stir(0), 0);
    }

    private static void p01BothGroupsAreEmpty() {
        AclInherit x = new AclInherit();
        for (int g = 6; g <= 7; g++) {
            for (int p = 0; p < 6; p++) {
                due(p + " in " + g, x.member(g, p, 0), 0);
            }
        }
    }

    private static void p01NewObjectsShareNothing() {
        AclInherit used = chain(15);
        fill(used, 0);
        used.member(6, 0, 1);
        used.close(0, 1);
        AclInherit fresh = new AclInherit();
        due("entries", fresh.entries(0), 0);
        due("tree", fresh.entries(1), NONE);
        due("group", fresh.member(6, 0, 0), 0);
        due("closed", fresh.close(0, 0), 0);
        due("the used one has its entries still", used.entries(0), 4);
        due("and its group", used.member(6, 0, 0), 1);
        due("and is closed", used.close(0, 0), 1);
    }

    // Promise 2: "Object o stands from now on, below q, open, without entries."

    private static void p02StandsBelowQOpenWithoutEntries() {
        int[][] pairs = {{1, 0}, {15, 0}, {1, 15}, {15, 1}, {15, 14}, {14, 15}};
        for (int[] pair : pairs) {
            AclInherit x = new AclInherit();
            x.entry(0, 0, 7, ALLOW + PASSED_ON);
            if (pair[1] != 0) {
                due("create " + pair[1], x.create(pair[1], 0), 0);
            }
            due("create " + pair[0], x.create(pair[0], pair[1]), 0);
            due("parent of " + pair[0], x.parentOf(pair[0]), pair[1]);
            due("entries of " + pair[0], x.entries(pair[0]), 0);
            due("rights on " + pair[0], x.rights(pair[0], 0), 7);
            due(pair[0] + " was open", x.close(pair[0], 1), 0);
        }
    }

    private static void p02CreatedAgainItIsOpenAndEmpty() {
        AclInherit x = withOneGone();
        x.entry(1, 0, 5, ALLOW + PASSED_ON);
        due("create(9, 1)", x.create(9, 1), 0);
        due("below the new one", x.parentOf(9), 1);
        due("without entries", x.entries(9), 0);
        due("nothing to drop", x.drop(9, 0), NONE);
        due("open, so it inherits", x.rights(9, 0), 5);
        due("close answers so too", x.close(9, 0), 0);
        fill(x, 9);
    }

    private static void p02AllFifteenCanStand() {
        AclInherit x = chain(15);
        for (int o = 1; o <= 15; o++) {
            due("create " + o + " again", x.create(o, 0), NONE);
            due("its parent stays", x.parentOf(o), o - 1);
        }
        due("one goes", x.remove(15), 0);
        due("and comes again", x.create(15, 0), 0);
    }

    // "o not 1 to 15 or q not 0 to 15 answers BAD_ARG"

    private static void p02ONot1To15() {
        due("o 0", new AclInherit().create(0, 0), BAD_ARG);
        due("o 1", new AclInherit().create(1, 0), 0);
        due("o 15", new AclInherit().create(15, 0), 0);
        due("o 16", new AclInherit().create(16, 0), BAD_ARG);
        for (int o : NOT_MOVABLE) {
            due("o " + o, chain(3).create(o, 0), BAD_ARG);
        }
    }

    private static void p02QNot0To15() {
        AclInherit x = chain(15);
        x.remove(15);
        due("q -1", x.create(15, -1), BAD_ARG);
        due("q 16", x.create(15, 16), BAD_ARG);
        for (int q : NOT_OBJECTS) {
            due("q " + q, x.create(15, q), BAD_ARG);
        }
        due("q 0", x.create(15, 0), 0);
        x.move(14, 0);
        x.remove(14);
        due("q 15", x.create(14, 15), 0);
    }

    // "o stands or q does not answers NONE"

    private static void p02OStandsOrQDoesNot() {
        AclInherit x = withOneGone();
        due("o stands", x.create(1, 0), NONE);
        due("o stands, q is its parent", x.create(3, 2), NONE);
        due("q never stood", x.create(4, 5), NONE);
        due("q is gone", x.create(4, 9), NONE);
        due("q is o, which never stood", x.create(4, 4), NONE);
        due("q is o, which is gone", x.create(9, 9), NONE);
        due("q is o, which stands", x.create(2, 2), NONE);
        due("both wrong", x.create(1, 9), NONE);
        due("neither wrong", x.create(4, 3), 0);
    }

    private static void p02BadArgIsTestedBeforeNone() {
        AclInherit x = withOneGone();
        for (int o : NOT_MOVABLE) {
            due("o " + o + ", q gone", x.create(o, 9), BAD_ARG);
            due("o " + o + ", q never stood", x.create(o, 15), BAD_ARG);
        }
        for (int q : NOT_OBJECTS) {
            due("q " + q + ", o stands", x.create(1, q), BAD_ARG);
        }
        due("both out of range", x.create(MIN, MAX), BAD_ARG);
        due("0 stands, but is out of range first", x.create(0, 0), BAD_ARG);
    }

    // "Otherwise 0."

    private static void p02Otherwise0() {
        for (int q = 0; q <= 15; q++) {
            for (int o = 1; o <= 15; o++) {
                if (o != q) {
                    AclInherit x = allBut(o);
                    due("create(" + o + ", " + q + ")", x.create(o, q), 0);
                    due("its parent", x.parentOf(o), q);
                }
            }
        }
    }

    private static AclInherit allBut(int o) {
        AclInherit x = new AclInherit();
        for (int each = 1; each <= 15; each++) {
            if (each != o) {
                due("create " + each, x.create(each, 0), 0);
            }
        }
        return x;
    }

    // Promise 3: "Object o no longer stands."

    private static void p03NoLongerStands() {
        AclInherit x = chain(1);
        x.entry(1, 0, 15, ALLOW);
        due("counted before", x.count(0, 0), 1);
        due("remove(1)", x.remove(1), 0);
        due("parentOf", x.parentOf(1), NONE);
        due("close", x.close(1, 0), NONE);
        due("entry", x.entry(1, 0, 15, ALLOW), NONE);
        due("drop", x.drop(1, 0), NONE);
        due("entries", x.entries(1), NONE);
        due("rights", x.rights(1, 0), NONE);
        due("may", x.may(1, 0, 0), false);
        due("who", x.who(1, 0), NONE);
        due("stir", x.stir(1), NONE);
        due("move", x.move(1, 0), NONE);
        due("remove", x.remove(1), NONE);
        due("count", x.count(0, 0), 0);
        due("as a parent", x.create(2, 1), NONE);
    }

    // "o not 1 to 15 answers BAD_ARG"

    private static void p03ONot1To15() {
        AclInherit x = new AclInherit();
        x.create(1, 0);
        x.create(15, 0);
        due("o 0", x.remove(0), BAD_ARG);
        due("o 16", x.remove(16), BAD_ARG);
        for (int o : NOT_MOVABLE) {
            due("o " + o, x.remove(o), BAD_ARG);
        }
        due("o 1", x.remove(1), 0);
        due("o 15", x.remove(15), 0);
    }

    // "it does not stand answers NONE"

    private static void p03DoesNotStand() {
        AclInherit x = withOneGone();
        for (int o = 4; o <= 15; o++) {
            due("remove " + o, x.remove(o), NONE);
        }
    }

    // "it is a parent answers BELOW"

    private static void p03AParent() {
        for (int q = 1; q <= 15; q++) {
            for (int o = 1; o <= 15; o++) {
                if (o != q) {
                    AclInherit x = new AclInherit();
                    x.create(q, 0);
                    x.create(o, q);
                    due(q + " is the parent of " + o, x.remove(q), BELOW);
                    due(o + " goes", x.remove(o), 0);
                    due(q + " is a parent no longer", x.remove(q), 0);
                }
            }
        }
    }

    private static void p03AParentThroughAMove() {
        AclInherit x = new AclInherit();
        x.create(1, 0);
        x.create(2, 0);
        x.create(3, 1);
        due("2 is none yet", x.move(3, 2), 1);
        due("2 is one now", x.remove(2), BELOW);
        due("1 is one no longer", x.remove(1), 0);
    }

    private static void p03AGoneObjectIsBelowNothing() {
        AclInherit x = withOneGone();
        due("3 was the parent of 9", x.remove(3), 0);
        due("then 2", x.remove(2), 0);
        due("then 1", x.remove(1), 0);
    }

    // "Otherwise 0."

    private static void p03Otherwise0() {
        for (int o = 1; o <= 15; o++) {
            AclInherit x = allBut(o);
            due("create(" + o + ", 0)", x.create(o, 0), 0);
            due("remove(" + o + ")", x.remove(o), 0);
            for (int each = 0; each <= 15; each++) {
                due(each + " when " + o + " is gone", x.entries(each), each == o ? NONE : 0);
            }
        }
    }

    private static void p03TheOrder() {
        AclInherit x = chain(2);
        due("0 is a parent, but out of range first", x.remove(0), BAD_ARG);
        due("a parent in range", x.remove(1), BELOW);
        due("no parent", x.remove(2), 0);
        due("gone, and no parent", x.remove(2), NONE);
    }

    // Promise 4: "The parent of o becomes q." ... "Otherwise the parent before."

    private static void p04AnswersTheParentBefore() {
        AclInherit x = new AclInherit();
        x.create(1, 0);
        x.create(15, 0);
        x.create(14, 0);
        due("from 0 to 15", x.move(1, 15), 0);
        due("it is 15", x.parentOf(1), 15);
        due("from 15 to 15", x.move(1, 15), 15);
        due("it is still 15", x.parentOf(1), 15);
        due("from 15 to 14", x.move(1, 14), 15);
        due("from 14 to 0", x.move(1, 0), 14);
        due("from 0 to 0", x.move(1, 0), 0);
        due("it is 0", x.parentOf(1), 0);
    }

    private static void p04WhatIsBelowComesAlong() {
        AclInherit x = chain(3);
        x.create(8, 0);
        x.entry(8, 0, 4, ALLOW + PASSED_ON);
        due("move(2, 8)", x.move(2, 8), 1);
        due("3 is below 2 still", x.parentOf(3), 2);
        due("3 inherits from 8", x.rights(3, 0), 4);
        due("1 does not", x.rights(1, 0), 0);
    }

    private static void p04EntriesAndClosedStay() {
        AclInherit x = chain(2);
        x.create(8, 0);
        x.entry(8, 0, 4, ALLOW + PASSED_ON);
        x.entry(2, 0, 1, ALLOW);
        x.close(2, 1);
        due("move(2, 8)", x.move(2, 8), 1);
        due("its entry", x.entries(2), 1);
        due("its rights", x.rights(2, 0), 1);
        due("it was closed", x.close(2, 0), 1);
        due("open, it inherits", x.rights(2, 0), 5);
    }

    // "o not 1 to 15 or q not 0 to 15 answers BAD_ARG"

    private static void p04ONot1To15() {
        AclInherit x = new AclInherit();
        x.create(1, 0);
        x.create(15, 0);
        due("o 0", x.move(0, 1), BAD_ARG);
        due("o 16", x.move(16, 1), BAD_ARG);
        for (int o : NOT_MOVABLE) {
            due("o " + o, x.move(o, 0), BAD_ARG);
        }
        due("o 1", x.move(1, 15), 0);
        due("o 15", x.move(15, 0), 0);
    }

    private static void p04QNot0To15() {
        AclInherit x = new AclInherit();
        x.create(1, 0);
        x.create(15, 0);
        due("q -1", x.move(1, -1), BAD_ARG);
        due("q 16", x.move(1, 16), BAD_ARG);
        for (int q : NOT_OBJECTS) {
            due("q " + q, x.move(1, q), BAD_ARG);
        }
        due("q 15", x.move(1, 15), 0);
        due("q 0", x.move(1, 0), 15);
    }

    // "o or q does not stand answers NONE"

    private static void p04OOrQDoesNotStand() {
        AclInherit x = withOneGone();
        due("o gone", x.move(9, 0), NONE);
        due("o never stood", x.move(15, 0), NONE);
        due("q gone", x.move(1, 9), NONE);
        due("q never stood", x.move(1, 15), NONE);
        due("neither stands", x.move(9, 15), NONE);
    }

    // "q is o or one comes from q to o by following parents answers BELOW"

    private static void p04BelowItself() {
        AclInherit x = chain(15);
        for (int o = 1; o <= 15; o++) {
            for (int q = o; q <= 15; q++) {
                due(o + " below " + q, x.move(o, q), BELOW);
            }
        }
        for (int o = 1; o <= 15; o++) {
            due("the parent of " + o, x.parentOf(o), o - 1);
        }
    }

    private static void p04NotBelowItself() {
        for (int o = 1; o <= 15; o++) {
            for (int q = 0; q < o; q++) {
                due(o + " below " + q, chain(15).move(o, q), o - 1);
            }
        }
    }

    private static void p04AsideIsNotBelow() {
        AclInherit x = new AclInherit();
        x.create(1, 0);
        x.create(2, 0);
        x.create(3, 2);
        due("1 below one aside", x.move(1, 3), 0);
        due("2 is above 3, and so above 1", x.move(2, 1), BELOW);
        due("3 goes up, and 1 with it", x.move(3, 0), 2);
        due("3 is above 1 still", x.move(3, 1), BELOW);
        due("2 is aside now", x.move(2, 1), 0);
    }

    private static void p04BadArgIsTestedBeforeNone() {
        AclInherit x = withOneGone();
        for (int o : NOT_MOVABLE) {
            due("o " + o + ", q gone", x.move(o, 9), BAD_ARG);
        }
        for (int q : NOT_OBJECTS) {
            due("o gone, q " + q, x.move(9, q), BAD_ARG);
        }
        due("both out of range", x.move(MAX, MIN), BAD_ARG);
    }

    private static void p04BadArgIsTestedBeforeBelow() {
        AclInherit x = chain(2);
        due("0 to itself", x.move(0, 0), BAD_ARG);
        due("0 below its child", x.move(0, 1), BAD_ARG);
        due("16 to itself", x.move(16, 16), BAD_ARG);
        due("-1 to itself", x.move(-1, -1), BAD_ARG);
    }

    private static void p04NoneIsTestedBeforeBelow() {
        AclInherit x = withOneGone();
        due("one that is gone to itself", x.move(9, 9), NONE);
        due("one that never stood to itself", x.move(15, 15), NONE);
        due("below one that is gone, once its child", x.move(3, 9), NONE);
        due("below one that is gone, once below its child", x.move(2, 9), NONE);
    }

    // Promise 5: "The parent of o; NONE if it does not stand, is object 0 or is not 0 to 15."

    private static void p05TheParent() {
        AclInherit x = chain(15);
        for (int o = 1; o <= 15; o++) {
            due("parent of " + o, x.parentOf(o), o - 1);
        }
        AclInherit y = new AclInherit();
        y.create(15, 0);
        y.create(1, 15);
        due("the least", y.parentOf(15), 0);
        due("the greatest", y.parentOf(1), 15);
    }

    private static void p05DoesNotStand() {
        AclInherit x = withOneGone();
        due("gone", x.parentOf(9), NONE);
        due("never stood", x.parentOf(15), NONE);
    }

    private static void p05Object0() {
        due("new", new AclInherit().parentOf(0), NONE);
        due("used", chain(15).parentOf(0), NONE);
    }

    private static void p05Not0To15IsNoneToo() {
        AclInherit x = chain(15);
        due("-1", x.parentOf(-1), NONE);
        due("16", x.parentOf(16), NONE);
        for (int o : NOT_OBJECTS) {
            due("o " + o, x.parentOf(o), NONE);
        }
    }

    // Promise 6: "Object o becomes closed (on not 0) or open (on 0)." ... "Otherwise 1 if it was
    // closed before, else 0."

    private static void p06AnyNumberButZeroCloses() {
        for (int on : NOT_ZERO) {
            AclInherit x = chain(1);
            x.entry(0, 0, 1, ALLOW + PASSED_ON);
            due("close(1, " + on + ") of an open one", x.close(1, on), 0);
            due("it is closed", x.rights(1, 0), 0);
            due("close(1, " + on + ") of a closed one", x.close(1, on), 1);
            due("it is still closed", x.rights(1, 0), 0);
            due("close(1, 0) of a closed one", x.close(1, 0), 1);
            due("it is open", x.rights(1, 0), 1);
            due("close(1, 0) of an open one", x.close(1, 0), 0);
            due("it is still open", x.rights(1, 0), 1);
        }
    }

    private static void p06EachObjectByItself() {
        for (int k = 0; k <= 15; k++) {
            AclInherit x = chain(15);
            due("close " + k, x.close(k, 1), 0);
            for (int o = 0; o <= 15; o++) {
                due(o + " after closing " + k, x.close(o, 0), o == k ? 1 : 0);
            }
        }
    }

    // "o not 0 to 15 answers BAD_ARG; it does not stand answers NONE"

    private static void p06ONot0To15() {
        AclInherit x = chain(15);
        due("o -1", x.close(-1, 1), BAD_ARG);
        due("o 0", x.close(0, 1), 0);
        due("o 15", x.close(15, 1), 0);
        due("o 16", x.close(16, 1), BAD_ARG);
        for (int o : NOT_OBJECTS) {
            due("close " + o, x.close(o, 1), BAD_ARG);
            due("open " + o, x.close(o, 0), BAD_ARG);
        }
    }

    private static void p06DoesNotStand() {
        AclInherit x = withOneGone();
        due("close one that is gone", x.close(9, 1), NONE);
        due("open one that is gone", x.close(9, 0), NONE);
        due("close one that never stood", x.close(15, 1), NONE);
        due("open one that never stood", x.close(15, 0), NONE);
    }

    // Promise 7: "Person p is from now on (on not 0) or is no longer (on 0) in group g." ...
    // "Otherwise 1 if p was in it before, else 0."

    private static void p07AnyNumberButZeroPutsIn() {
        for (int on : NOT_ZERO) {
            AclInherit x = new AclInherit();
            x.entry(0, 7, 1, ALLOW);
            due("member(7, 5, " + on + ")", x.member(7, 5, on), 0);
            due("5 is in", x.rights(0, 5), 1);
            due("member(7, 5, " + on + ") again", x.member(7, 5, on), 1);
            due("5 is still in", x.rights(0, 5), 1);
            due("member(7, 5, 0)", x.member(7, 5, 0), 1);
            due("5 is out", x.rights(0, 5), 0);
            due("member(7, 5, 0) again", x.member(7, 5, 0), 0);
            due("5 is still out", x.rights(0, 5), 0);
        }
    }

    private static void p07EachPersonAndGroupByItself() {
        for (int g = 6; g <= 7; g++) {
            for (int p = 0; p < 6; p++) {
                AclInherit x = new AclInherit();
                due(p + " into " + g, x.member(g, p, 1), 0);
                for (int other = 0; other < 12; other++) {
                    boolean same = other == 6 * (g - 6) + p;
                    due("place " + other, x.member(6 + other / 6, other % 6, 0), same ? 1 : 0);
                }
            }
        }
    }

    // "BAD_ARG if g is not 6 or 7 or p not 0 to 5."

    private static void p07GNot6Or7() {
        AclInherit x = new AclInherit();
        due("g 5", x.member(5, 0, 1), BAD_ARG);
        due("g 6", x.member(6, 0, 1), 0);
        due("g 7", x.member(7, 0, 1), 0);
        due("g 8", x.member(8, 0, 1), BAD_ARG);
        for (int g : NOT_GROUPS) {
            due("in, g " + g, x.member(g, 0, 1), BAD_ARG);
            due("out, g " + g, x.member(g, 0, 0), BAD_ARG);
        }
    }

    private static void p07PNot0To5() {
        AclInherit x = new AclInherit();
        due("p -1", x.member(6, -1, 1), BAD_ARG);
        due("p 0", x.member(6, 0, 1), 0);
        due("p 5", x.member(6, 5, 1), 0);
        due("p 6", x.member(6, 6, 1), BAD_ARG);
        for (int p : NOT_PERSONS) {
            due("in, p " + p, x.member(7, p, 1), BAD_ARG);
            due("out, p " + p, x.member(7, p, 0), BAD_ARG);
        }
        due("both out of range", x.member(MIN, MAX, 1), BAD_ARG);
    }

    // Promise 8: "Appends an entry to the list of o: who, rights, and kindAndFlags = 8 times the kind
    // plus the flags." ... "Otherwise the number of its entries."

    private static void p08AnswersTheNumberOfItsEntries() {
        for (int o = 0; o <= 15; o += 15) {
            AclInherit x = chain(15);
            for (int n = 1; n <= 4; n++) {
                due("entry " + n + " of " + o, x.entry(o, 0, 1, ALLOW), n);
                due("entries of " + o, x.entries(o), n);
            }
        }
    }

    private static void p08AppendsAtTheEnd() {
        for (int n = 1; n <= 4; n++) {
            AclInherit x = new AclInherit();
            for (int i = 0; i < n; i++) {
                x.entry(0, i, 1, ALLOW);
            }
            due("those named", x.who(0, 0), (1 << n) - 1);
            due("drop the last of " + n, x.drop(0, n - 1), n - 1);
            due("the others are left", x.who(0, 0), (1 << (n - 1)) - 1);
        }
    }

    private static void p08EqualEntriesAreEntriesEach() {
        AclInherit x = new AclInherit();
        x.entry(0, 0, 1, ALLOW);
        due("the same again", x.entry(0, 0, 1, ALLOW), 2);
        due("drop one", x.drop(0, 0), 1);
        due("the other counts", x.rights(0, 0), 1);
    }

    private static void p08OfItsOwnListAlone() {
        AclInherit x = chain(1);
        x.entry(0, 0, 1, ALLOW + PASSED_ON);
        x.entry(0, 1, 1, ALLOW + PASSED_ON);
        x.entry(0, 2, 1, ALLOW + PASSED_ON);
        due("inherited ones are not counted", x.entry(1, 0, 1, ALLOW), 1);
        due("and take up no room", x.entry(1, 0, 1, ALLOW), 2);
        due("nor do those below", x.entry(0, 3, 1, ALLOW), 4);
    }

    // "o not 0 to 15, who not 0 to 7, rights not 0 to 15 or kindAndFlags not 0 to 15 answers BAD_ARG"

    private static void p08ONot0To15() {
        due("o -1", chain(15).entry(-1, 0, 1, ALLOW), BAD_ARG);
        due("o 0", chain(15).entry(0, 0, 1, ALLOW), 1);
        due("o 15", chain(15).entry(15, 0, 1, ALLOW), 1);
        due("o 16", chain(15).entry(16, 0, 1, ALLOW), BAD_ARG);
        for (int o : NOT_OBJECTS) {
            due("o " + o, chain(15).entry(o, 0, 1, ALLOW), BAD_ARG);
        }
    }

    private static void p08WhoNot0To7() {
        AclInherit x = new AclInherit();
        due("who -1", x.entry(0, -1, 1, ALLOW), BAD_ARG);
        due("who 0", x.entry(0, 0, 1, ALLOW), 1);
        due("who 7", x.entry(0, 7, 1, ALLOW), 2);
        due("who 8", x.entry(0, 8, 1, ALLOW), BAD_ARG);
        for (int who : NOT_WHOS) {
            due("who " + who, x.entry(0, who, 1, ALLOW), BAD_ARG);
        }
    }

    private static void p08RightsNot0To15() {
        AclInherit x = new AclInherit();
        due("rights -1", x.entry(0, 0, -1, ALLOW), BAD_ARG);
        due("rights 0", x.entry(0, 0, 0, ALLOW), 1);
        due("rights 15", x.entry(0, 0, 15, ALLOW), 2);
        due("rights 16", x.entry(0, 0, 16, ALLOW), BAD_ARG);
        for (int rights : NOT_SETS) {
            due("rights " + rights, x.entry(0, 0, rights, ALLOW), BAD_ARG);
        }
    }

    private static void p08KindAndFlagsNot0To15() {
        AclInherit x = new AclInherit();
        due("kindAndFlags -1", x.entry(0, 0, 1, -1), BAD_ARG);
        due("kindAndFlags 0", x.entry(0, 0, 1, 0), 1);
        due("kindAndFlags 15", x.entry(0, 0, 1, 15), 2);
        due("kindAndFlags 16", x.entry(0, 0, 1, 16), BAD_ARG);
        for (int mode : NOT_SETS) {
            due("kindAndFlags " + mode, x.entry(0, 0, 1, mode), BAD_ARG);
        }
    }

    // "o does not stand answers NONE; FULL"

    private static void p08DoesNotStand() {
        AclInherit x = withOneGone();
        due("never stood", x.entry(15, 0, 1, ALLOW), NONE);
        due("gone", x.entry(9, 0, 1, ALLOW), NONE);
    }

    private static void p08Full() {
        AclInherit x = chain(15);
        fill(x, 0);
        fill(x, 15);
        due("a fifth on 0", x.entry(0, 0, 1, ALLOW), FULL);
        due("a fifth on 15", x.entry(15, 0, 1, ALLOW), FULL);
        due("a first on 14", x.entry(14, 0, 1, ALLOW), 1);
        due("one goes", x.drop(0, 3), 3);
        due("there is room again", x.entry(0, 0, 1, ALLOW), 4);
        due("and again there is none", x.entry(0, 0, 1, ALLOW), FULL);
    }

    private static void p08BadArgIsTestedBeforeNone() {
        AclInherit x = withOneGone();
        for (int o = 9; o <= 10; o++) {
            for (int who : NOT_WHOS) {
                due("who " + who + " on " + o, x.entry(o, who, 1, ALLOW), BAD_ARG);
            }
            for (int bad : NOT_SETS) {
                due("rights " + bad + " on " + o, x.entry(o, 0, bad, ALLOW), BAD_ARG);
                due("kindAndFlags " + bad + " on " + o, x.entry(o, 0, 1, bad), BAD_ARG);
            }
        }
        due("all out of range", x.entry(MIN, MAX, MIN, MAX), BAD_ARG);
    }

    private static void p08BadArgIsTestedBeforeFull() {
        AclInherit x = new AclInherit();
        fill(x, 0);
        for (int who : NOT_WHOS) {
            due("who " + who, x.entry(0, who, 1, ALLOW), BAD_ARG);
        }
        for (int bad : NOT_SETS) {
            due("rights " + bad, x.entry(0, 0, bad, ALLOW), BAD_ARG);
            due("kindAndFlags " + bad, x.entry(0, 0, 1, bad), BAD_ARG);
        }
    }

    private static void p08NoneIsTestedBeforeFull() {
        AclInherit x = chain(1);
        fill(x, 1);
        due("full", x.entry(1, 0, 1, ALLOW), FULL);
        x.remove(1);
        due("gone, and full when it went", x.entry(1, 0, 1, ALLOW), NONE);
    }

    // Promise 9: "Removes entry i (0 is the first) of o; those behind it move up." ... "Otherwise the
    // number of its entries."

    private static void p09EachPlaceOfEachLength() {
        for (int n = 1; n <= 4; n++) {
            for (int i = 0; i < n; i++) {
                AclInherit x = new AclInherit();
                for (int p = 0; p < n; p++) {
                    x.entry(0, p, 1, ALLOW);
                }
                due("drop " + i + " of " + n, x.drop(0, i), n - 1);
                due("those left", x.who(0, 0), ((1 << n) - 1) & ~(1 << i));
                due("entries", x.entries(0), n - 1);
            }
        }
    }

    private static void p09ThoseBehindMoveUp() {
        AclInherit x = new AclInherit();
        for (int p = 0; p < 4; p++) {
            x.entry(0, p, 1, ALLOW);
        }
        due("drop 0", x.drop(0, 0), 3);
        due("the old 1 is now 0", x.drop(0, 0), 2);
        due("2 and 3 are left", x.who(0, 0), 12);
        due("the old 3 is now 1", x.drop(0, 1), 1);
        due("2 is left", x.who(0, 0), 4);
        due("the old 2 is now 0", x.drop(0, 0), 0);
        due("none is left", x.who(0, 0), 0);
    }

    private static void p09WholeEntriesMoveUp() {
        AclInherit x = chain(2);
        x.entry(0, 5, 15, ALLOW);
        x.entry(0, 1, 3, DENY + PASSED_ON);
        x.entry(0, 1, 15, ALLOW + PASSED_ON + ONE_STEP);
        x.entry(0, 2, 10, ALLOW + PASSED_ON + NOT_FOR_ITSELF);
        due("drop 0", x.drop(0, 0), 3);
        due("5 on 0", x.rights(0, 5), 0);
        due("1 on 0", x.rights(0, 1), 12);
        due("1 on 1", x.rights(1, 1), 12);
        due("1 on 2", x.rights(2, 1), 0);
        due("2 on 0", x.rights(0, 2), 0);
        due("2 on 1", x.rights(1, 2), 10);
        due("2 on 2", x.rights(2, 2), 10);
    }

    private static void p09OtherObjectsKeepTheirEntries() {
        for (int from = 0; from <= 15; from++) {
            for (int i = 0; i < 4; i++) {
                AclInherit x = chain(15);
                for (int k = 0; k < 64; k++) {
                    x.entry(k / 4, k % 4, 15 - k / 4, ALLOW);
                }
                due("drop " + i + " of " + from, x.drop(from, i), 3);
                for (int k = 0; k < 64; k++) {
                    boolean dropped = k == 4 * from + i;
                    due("entry " + k % 4 + " of " + k / 4, x.rights(k / 4, k % 4), dropped ? 0 : 15 - k / 4);
                }
            }
        }
    }

    // "o not 0 to 15 answers BAD_ARG"

    private static void p09ONot0To15() {
        AclInherit x = chain(15);
        x.entry(0, 0, 1, ALLOW);
        x.entry(15, 0, 1, ALLOW);
        due("o -1", x.drop(-1, 0), BAD_ARG);
        due("o 16", x.drop(16, 0), BAD_ARG);
        for (int o : NOT_OBJECTS) {
            due("o " + o, x.drop(o, 0), BAD_ARG);
        }
        due("o 0", x.drop(0, 0), 0);
        due("o 15", x.drop(15, 0), 0);
    }

    // "o does not stand or has no entry i answers NONE"

    private static void p09DoesNotStand() {
        AclInherit x = withOneGone();
        for (int i = -1; i <= 4; i++) {
            due("gone, entry " + i, x.drop(9, i), NONE);
            due("never stood, entry " + i, x.drop(15, i), NONE);
        }
    }

    private static void p09NoEntryI() {
        for (int o = 0; o <= 2; o++) {
            AclInherit x = chain(3);
            fill(x, 3);
            for (int n = 0; n <= 4; n++) {
                due("entry -1 of " + n, x.drop(o, -1), NONE);
                due("entry " + n + " of " + n, x.drop(o, n), NONE);
                due("entry 4", x.drop(o, 4), NONE);
                due("the least i", x.drop(o, MIN), NONE);
                due("the greatest i", x.drop(o, MAX), NONE);
                due("i that a wrap-around makes 0", x.drop(o, 1 << 30), NONE);
                due("i that a mask makes 0", x.drop(o, 256), NONE);
                due("all are there", x.entries(o), n);
                x.entry(o, 0, 1, ALLOW);
            }
        }
    }

    private static void p09BadArgIsTestedBeforeNone() {
        AclInherit x = new AclInherit();
        for (int o : NOT_OBJECTS) {
            due("o " + o + ", i -1", x.drop(o, -1), BAD_ARG);
            due("o " + o + ", i 4", x.drop(o, 4), BAD_ARG);
            due("o " + o + ", the least i", x.drop(o, MIN), BAD_ARG);
            due("o " + o + ", the greatest i", x.drop(o, MAX), BAD_ARG);
        }
    }

    // Promise 10: "The number of entries of o; NONE if it does not stand; BAD_ARG if o is not 0 to 15."

    private static void p10From0To4() {
        for (int o = 0; o <= 15; o += 5) {
            AclInherit x = chain(15);
            for (int n = 0; n <= 4; n++) {
                due("entries of " + o, x.entries(o), n);
                x.entry(o, 0, 0, 0);
            }
            due("never more than 4", x.entries(o), 4);
            for (int n = 3; n >= 0; n--) {
                x.drop(o, 0);
                due("entries of " + o, x.entries(o), n);
            }
        }
    }

    private static void p10OwnEntriesAlone() {
        AclInherit x = chain(2);
        x.entry(0, 0, 15, ALLOW + PASSED_ON);
        x.entry(2, 0, 15, ALLOW + NOT_FOR_ITSELF);
        due("inherited ones are not counted", x.entries(1), 0);
        due("one not for itself is", x.entries(2), 1);
    }

    private static void p10DoesNotStand() {
        AclInherit x = withOneGone();
        due("gone", x.entries(9), NONE);
        due("never stood", x.entries(15), NONE);
    }

    private static void p10ONot0To15() {
        AclInherit x = chain(15);
        due("-1", x.entries(-1), BAD_ARG);
        due("0", x.entries(0), 0);
        due("15", x.entries(15), 0);
        due("16", x.entries(16), BAD_ARG);
        for (int o : NOT_OBJECTS) {
            due("o " + o, x.entries(o), BAD_ARG);
        }
    }

    // Promise 11: "The set of the rights that person p may do on o."

    private static void p11FromNoneToAll() {
        AclInherit x = new AclInherit();
        due("no rights", x.rights(0, 0), 0);
        int set = 0;
        for (int r = 3; r >= 0; r--) {
            x.entry(0, 0, 1 << r, ALLOW);
            set += 1 << r;
            due("with right " + r, x.rights(0, 0), set);
        }
        due("another person has none", x.rights(0, 5), 0);
    }

    // "o not 0 to 15 or p not 0 to 5 answers BAD_ARG"

    private static void p11ONot0To15() {
        AclInherit x = chain(15);
        x.entry(0, 0, 15, ALLOW + PASSED_ON);
        due("o -1", x.rights(-1, 0), BAD_ARG);
        due("o 0", x.rights(0, 0), 15);
        due("o 15", x.rights(15, 0), 15);
        due("o 16", x.rights(16, 0), BAD_ARG);
        for (int o : NOT_OBJECTS) {
            due("o " + o, x.rights(o, 0), BAD_ARG);
        }
    }

    private static void p11PNot0To5() {
        AclInherit x = new AclInherit();
        x.entry(0, 0, 15, ALLOW);
        x.entry(0, 5, 15, ALLOW);
        due("p -1", x.rights(0, -1), BAD_ARG);
        due("p 0", x.rights(0, 0), 15);
        due("p 5", x.rights(0, 5), 15);
        due("p 6", x.rights(0, 6), BAD_ARG);
        for (int p : NOT_PERSONS) {
            due("p " + p, x.rights(0, p), BAD_ARG);
        }
    }

    // "o does not stand answers NONE"

    private static void p11DoesNotStand() {
        AclInherit x = withOneGone();
        due("gone", x.rights(9, 0), NONE);
        due("never stood", x.rights(15, 5), NONE);
    }

    private static void p11BadArgIsTestedBeforeNone() {
        AclInherit x = withOneGone();
        for (int p : NOT_PERSONS) {
            due("gone, p " + p, x.rights(9, p), BAD_ARG);
            due("never stood, p " + p, x.rights(15, p), BAD_ARG);
            due("both out of range", x.rights(16, p), BAD_ARG);
        }
    }

    // Promise 12: "Whether person p may do right r on o; false if there are no such things or o does
    // not stand."

    /** All fifteen stand, and everybody may do everything everywhere. */
    private static AclInherit allAllowed() {
        AclInherit x = chain(15);
        for (int p = 0; p < 6; p++) {
            x.member(6, p, 1);
        }
        x.entry(0, 6, 15, ALLOW + PASSED_ON);
        return x;
    }

    private static void p12AllThingsThatThereAre() {
        AclInherit x = allAllowed();
        for (int o = 0; o <= 15; o++) {
            for (int p = 0; p < 6; p++) {
                for (int r = 0; r < 4; r++) {
                    due("may(" + o + ", " + p + ", " + r + ")", x.may(o, p, r), true);
                }
            }
        }
    }

    private static void p12NoSuchObject() {
        AclInherit x = allAllowed();
        due("o -1", x.may(-1, 0, 0), false);
        due("o 16", x.may(16, 0, 0), false);
        for (int o : NOT_OBJECTS) {
            due("o " + o, x.may(o, 0, 0), false);
        }
    }

    private static void p12NoSuchPerson() {
        AclInherit x = allAllowed();
        due("p -1", x.may(0, -1, 0), false);
        due("p 6", x.may(0, 6, 0), false);
        for (int p : NOT_PERSONS) {
            due("p " + p, x.may(0, p, 0), false);
        }
    }

    private static void p12NoSuchRight() {
        AclInherit x = allAllowed();
        due("r -1", x.may(0, 0, -1), false);
        due("r 4", x.may(0, 0, 4), false);
        for (int r : NOT_RIGHTS) {
            due("r " + r, x.may(0, 0, r), false);
        }
    }

    private static void p12DoesNotStand() {
        AclInherit x = allAllowed();
        x.entry(15, 0, 15, ALLOW);
        x.remove(15);
        due("gone, with an entry that allowed", x.may(15, 0, 0), false);
        due("never stood", new AclInherit().may(15, 0, 0), false);
    }

    // Promise 13: "The set of the persons that may do right r on o, as the sum of 2 to the power p."

    private static void p13FromNobodyToAll() {
        AclInherit x = new AclInherit();
        x.entry(0, 6, 9, ALLOW);
        due("nobody", x.who(0, 0), 0);
        for (int p = 0; p < 6; p++) {
            x.member(6, p, 1);
            due("up to " + p, x.who(0, 0), (2 << p) - 1);
        }
        due("all, right 3", x.who(0, 3), 63);
        due("nobody, right 1", x.who(0, 1), 0);
    }

    private static void p13EachPersonAlone() {
        for (int p = 0; p < 6; p++) {
            AclInherit x = chain(15);
            x.entry(15, p, 2, ALLOW);
            due("who " + p, x.who(15, 1), 1 << p);
        }
    }

    // "o not 0 to 15 or r not 0 to 3 answers BAD_ARG"

    private static void p13ONot0To15() {
        AclInherit x = allAllowed();
        due("o -1", x.who(-1, 0), BAD_ARG);
        due("o 0", x.who(0, 0), 63);
        due("o 15", x.who(15, 0), 63);
        due("o 16", x.who(16, 0), BAD_ARG);
        for (int o : NOT_OBJECTS) {
            due("o " + o, x.who(o, 0), BAD_ARG);
        }
    }

    private static void p13RNot0To3() {
        AclInherit x = allAllowed();
        due("r -1", x.who(0, -1), BAD_ARG);
        due("r 0", x.who(0, 0), 63);
        due("r 3", x.who(0, 3), 63);
        due("r 4", x.who(0, 4), BAD_ARG);
        for (int r : NOT_RIGHTS) {
            due("r " + r, x.who(0, r), BAD_ARG);
        }
    }

    // "o does not stand answers NONE"

    private static void p13DoesNotStand() {
        AclInherit x = withOneGone();
        due("gone", x.who(9, 0), NONE);
        due("never stood", x.who(15, 3), NONE);
    }

    private static void p13BadArgIsTestedBeforeNone() {
        AclInherit x = withOneGone();
        for (int r : NOT_RIGHTS) {
            due("gone, r " + r, x.who(9, r), BAD_ARG);
            due("never stood, r " + r, x.who(15, r), BAD_ARG);
            due("both out of range", x.who(-1, r), BAD_ARG);
        }
    }

    // Promise 14: "How many standing objects there are on which p may do r"

    private static void p14From0To16() {
        AclInherit x = new AclInherit();
        x.entry(0, 5, 8, ALLOW + PASSED_ON + NOT_FOR_ITSELF);
        due("none", x.count(5, 3), 0);
        for (int o = 1; o <= 15; o++) {
            x.create(o, o - 1);
            due("with " + o, x.count(5, 3), o);
        }
        x.entry(0, 5, 8, ALLOW);
        due("all", x.count(5, 3), 16);
        due("another right", x.count(5, 2), 0);
        due("another person", x.count(4, 3), 0);
    }

    private static void p14GoneOnesAreNotCounted() {
        AclInherit x = chain(15);
        for (int o = 1; o <= 15; o++) {
            x.entry(o, 0, 1, ALLOW);
        }
        for (int o = 15; o >= 1; o--) {
            due("before " + o + " goes", x.count(0, 0), o);
            x.remove(o);
        }
        due("when all are gone", x.count(0, 0), 0);
    }

    // "BAD_ARG if p is not 0 to 5 or r not 0 to 3."

    private static void p14PNot0To5() {
        AclInherit x = allAllowed();
        due("p -1", x.count(-1, 0), BAD_ARG);
        due("p 0", x.count(0, 0), 16);
        due("p 5", x.count(5, 0), 16);
        due("p 6", x.count(6, 0), BAD_ARG);
        for (int p : NOT_PERSONS) {
            due("p " + p, x.count(p, 0), BAD_ARG);
        }
    }

    private static void p14RNot0To3() {
        AclInherit x = allAllowed();
        due("r -1", x.count(0, -1), BAD_ARG);
        due("r 0", x.count(0, 0), 16);
        due("r 3", x.count(0, 3), 16);
        due("r 4", x.count(0, 4), BAD_ARG);
        for (int r : NOT_RIGHTS) {
            due("r " + r, x.count(0, r), BAD_ARG);
        }
        due("both out of range", x.count(MAX, MIN), BAD_ARG);
    }

    // Promise 15: "How many standing objects there are to which p can go: object 0 if p may do right 0
    // on it, and any other one if p may do right 0 on it and can go to its parent."

    private static void p15NotEvenToObject0() {
        AclInherit x = allAllowed();
        x.entry(0, 0, 1, DENY);
        due("shut out from all", x.reach(0), 0);
        due("though allowed on all others", x.count(0, 0), 15);
        due("another person", x.reach(1), 16);
    }

    private static void p15ToObject0Alone() {
        AclInherit x = chain(15);
        x.entry(0, 0, 1, ALLOW);
        due("allowed on object 0 alone", x.reach(0), 1);
        x.entry(2, 0, 1, ALLOW);
        due("allowed on 2, but not on its parent 1", x.reach(0), 1);
    }

    private static void p15StopsAtTheFirstShutOne() {
        for (int shut = 0; shut <= 15; shut++) {
            AclInherit x = allAllowed();
            x.entry(shut, 5, 1, DENY);
            due(shut + " is shut", x.reach(5), shut);
            due(shut + " alone is", x.count(5, 0), 15);
        }
    }

    private static void p15AParentOfAGreaterNumber() {
        AclInherit x = new AclInherit();
        x.create(15, 0);
        for (int o = 14; o >= 1; o--) {
            x.create(o, o + 1);
        }
        x.entry(0, 0, 1, ALLOW + PASSED_ON);
        due("to all", x.reach(0), 16);
        x.entry(15, 0, 1, DENY);
        due("15 shuts off all others", x.reach(0), 1);
        x.drop(15, 0);
        x.entry(1, 0, 1, DENY);
        due("1 shuts off none", x.reach(0), 15);
    }

    private static void p15Right0Alone() {
        AclInherit x = chain(1);
        x.entry(0, 0, 14, ALLOW + PASSED_ON);
        due("the other rights let nobody go", x.reach(0), 0);
        x.entry(0, 0, 1, ALLOW + PASSED_ON);
        x.entry(1, 0, 14, DENY);
        due("nor do they stop anybody", x.reach(0), 2);
    }

    private static void p15GoneOnesAreNotCounted() {
        AclInherit x = allAllowed();
        for (int o = 15; o >= 1; o--) {
            x.remove(o);
            due(o + " is gone", x.reach(0), o);
        }
    }

    // "BAD_ARG if p is not 0 to 5."

    private static void p15PNot0To5() {
        AclInherit x = allAllowed();
        due("p -1", x.reach(-1), BAD_ARG);
        due("p 0", x.reach(0), 16);
        due("p 5", x.reach(5), 16);
        due("p 6", x.reach(6), BAD_ARG);
        for (int p : NOT_PERSONS) {
            due("p " + p, x.reach(p), BAD_ARG);
        }
    }

    // Promise 16: "How many pairs of a standing object and a person there are whose rights would be
    // others if object o were closed instead of open, or open instead of closed; nothing is changed."

    private static void p16FromNoPairToAll() {
        due("a new object", new AclInherit().stir(0), 0);
        AclInherit x = allAllowed();
        for (int o = 1; o <= 15; o++) {
            due("if " + o + " were closed", x.stir(o), 6 * (16 - o));
        }
        for (int o = 1; o <= 15; o++) {
            x.close(o, 1);
            due("if " + o + " were open", x.stir(o), 6 * (16 - o));
            x.close(o, 0);
        }
    }

    private static void p16Object0StirsNothing() {
        AclInherit x = allAllowed();
        due("open", x.stir(0), 0);
        x.close(0, 1);
        due("closed", x.stir(0), 0);
    }

    private static void p16BehindAClosedOneNothingStirs() {
        AclInherit x = allAllowed();
        x.close(8, 1);
        due("above it", x.stir(7), 6);
        due("itself", x.stir(8), 6 * 8);
        due("below it", x.stir(9), 0);
        x.entry(8, 0, 1, ALLOW + PASSED_ON);
        due("below it, with something to inherit", x.stir(9), 7);
    }

    private static void p16AnyOtherSetOfRightsCounts() {
        AclInherit x = chain(1);
        x.entry(0, 0, 1, ALLOW + PASSED_ON);
        x.entry(0, 1, 8, ALLOW + PASSED_ON);
        x.entry(1, 1, 7, ALLOW);
        x.entry(1, 2, 15, ALLOW);
        x.entry(0, 2, 15, DENY + PASSED_ON);
        due("right 0 of 0 and right 3 of 1", x.stir(1), 2);
        x.entry(1, 0, 1, DENY);
        due("denied all the same", x.stir(1), 1);
    }

    private static void p16GoneOnesAreNotCounted() {
        AclInherit x = allAllowed();
        x.remove(15);
        due("15 is gone", x.stir(1), 6 * 14);
        due("15 is gone for 14 too", x.stir(14), 6);
    }

    private static void p16NothingIsChanged() {
        AclInherit x = allAllowed();
        for (int o = 0; o <= 15; o++) {
            x.close(o, o % 2);
            x.stir(o);
        }
        for (int o = 0; o <= 15; o++) {
            due(o + " was closed", x.close(o, 0), o % 2);
        }
        for (int o = 0; o <= 15; o++) {
            x.stir(o);
            due("rights on " + o, x.rights(o, 5), 15);
        }
    }

    // "o not 0 to 15 answers BAD_ARG; it does not stand answers NONE"

    private static void p16ONot0To15() {
        AclInherit x = allAllowed();
        due("-1", x.stir(-1), BAD_ARG);
        due("0", x.stir(0), 0);
        due("15", x.stir(15), 6);
        due("16", x.stir(16), BAD_ARG);
        for (int o : NOT_OBJECTS) {
            due("o " + o, x.stir(o), BAD_ARG);
        }
    }

    private static void p16DoesNotStand() {
        AclInherit x = withOneGone();
        due("gone", x.stir(9), NONE);
        due("never stood", x.stir(15), NONE);
    }

    public static void main(String[] args) {
        runAll(PromiseBoundaryTest.class);
    }
}
