/** The bounds that the document names by promises 18 to 21, mended: one sentence each. */
public final class MendBoundsTest {
    private static final int BAD = Due.BAD, NO = Due.NO, NONE = Due.NONE;
    private static final int LOWEST = Due.LOWEST, HIGHEST = Due.HIGHEST;
    private static final Due due = new Due();
    private static final String SAFE = "p32;v01;c002;e0190000;e2190000;";
    private static final String REAL = "p21;v00;c000;e0190000;";
    /** x can't be 1 less than 0, but no COMPARISON tells. */
    private static final String NO_SET = "p21;v00;c009;e0190301;";
    /** Ten ways to the TRAP, each to be ended by a set of its own, in this order: 1, 2, .. 128, 1, 1. */
    private static final String TEN_WAYS = "p43;v00;v00;c007;c006;c005;c004;c003;c002;c001;c017;"
        + "e0300000;e0310000;e0320000;e0330000;e0340000;e0350000;e0360000;e0370000;"
        + "e0190000;e0290000;e1300000;e2300000;";
    /** x is y, y is z, z is below 3, but x is not: only three COMPARISONS together tell. */
    private static final String NEEDS_THREE = "p54;v07;v07;v07;c301;c312;c023;c003;e0101000;e1211000;e2321000;e3430000;";

    private static CubeChecker real() {
        CubeChecker x = Due.laid(REAL);
        x.look(0, 0, 1);
        return x;
    }

    private static CubeChecker safe() {
        CubeChecker x = Due.laid(SAFE);
        x.look(0, 0, 1);
        return x;
    }

    private static CubeChecker noSet() {
        CubeChecker x = Due.laid(NO_SET);
        x.look(1, 0, 1);
        return x;
    }

    private static CubeChecker unmended() {
        CubeChecker x = Due.laid("p32;v00;c100;c101;e0190000;e1200000;e1211000;");
        x.look(2, 0, 1);
        x.look(0, 1, 1);
        return x;
    }

    // ---- promise 18

    private static void mendOne() {
        due.by("MENDED: of all sets of one or two COMPARISONS .. that of fewest: one, from the lowest to the highest");
        for (int g = 0; g < 8; g++) {
            String text = "p21;v00;" + "c009;".repeat(g) + "c101;" + "c009;".repeat(7 - g) + "e01" + g + "1000;";
            CubeChecker x = Due.laid(text);
            due.are("mend() of " + text, new int[] {x.mend(), x.looked(0), x.looked(1), x.path(-1)}, 1 << g, 1 << g, 1 << g, NONE);
        }
    }

    private static void mendTwo() {
        due.by("MENDED: of all sets of one or two COMPARISONS: two, if no one does");
        for (int lower = 0; lower < 8; lower++) {
            for (int higher = lower + 1; higher < 8; higher++) {
                String text = "p43;v07;v07;" + "c009;".repeat(lower) + "c301;" + "c009;".repeat(higher - lower - 1) + "c013;"
                    + "e01" + lower + "1000;e12" + higher + "1000;e2390303;";
                int set = 1 << lower | 1 << higher;
                CubeChecker x = Due.laid(text);
                due.are("mend() of " + text, new int[] {x.mend(), x.looked(0), x.looked(3), x.path(-1)}, set, set, set, NONE);
            }
        }
    }

    private static void mendFewest() {
        due.by("MENDED: that of fewest (so one alone is ahead of two that are less as bits)");
        CubeChecker x = Due.laid("p21;v00;v00;c004;c015;c009;c401;e0130000;");
        due.is("8, not 3", x.mend(), 8);
        CubeChecker two = Due.laid("p21;v00;v00;c004;c015;c401;e0120000;");
        due.is("4, not 3", two.mend(), 4);
    }

    private static void mendLeast() {
        due.by("MENDED: of several the least as bits");
        CubeChecker one = Due.laid("p21;v00;c009;c004;c003;c002;e0110000;");
        due.is("2, not 4 or 8", one.mend(), 2);
        CubeChecker two = Due.laid("p43;v07;v07;c301;c013;c003;e0101000;e1211000;e2320000;");
        due.is("3, not 5", two.mend(), 3);
        CubeChecker higher = Due.laid("p76;v07;v07;v07;c302;c301;c013;c025;c009;c009;c003;c005;"
            + "e0111000;e1221000;e2360000;e3401000;e4531000;e5670000;");
        due.is("6 (1 and 2), not 9 (0 and 3)", higher.mend(), 6);
    }

    private static void mendNone() {
        due.by("18 mend: NONE: there is no such set");
        CubeChecker three = Due.laid(NEEDS_THREE);
        due.are("three would do", new int[] {three.path(-1), three.path(-2), three.mend(), three.count(5), three.count(7)},
            4, 3, NONE, 0, 0);
        for (int p = 0; p < 5; p++) three.look(p, 0, 1);
        due.are("two more do", new int[] {three.mend(), three.path(-1), three.looked(0), three.count(7)}, 6, NONE, 7, 6);
        CubeChecker nothing = Due.laid("p21;v00;e0190301;");
        due.are("no COMPARISONS", new int[] {nothing.path(-2), nothing.mend(), nothing.count(7)}, 0, NONE, 0);
        CubeChecker one = Due.laid("p21;v00;c009;e0190301;");
        due.are("one COMPARISON that does not", new int[] {one.mend(), one.count(5), one.count(7)}, NONE, 0, 0);
        due.refused("mend(), no set", MendBoundsTest::noSet, CubeChecker::mend, NONE);
    }

    private static void mendNotSafe() {
        due.by("18 mend: NO: it is SAFE");
        due.is("no EDGES", Due.laid("p21;").mend(), NO);
        CubeChecker x = Due.laid("p21;v00;c101;e0101000;");
        due.are("SAFE then", new int[] {x.mend(), x.mend(), x.count(7)}, 1, NO, 1);
        due.refused("mend(), SAFE", MendBoundsTest::safe, CubeChecker::mend, NO);
    }

    private static void mendNotReal() {
        due.by("18 mend: NO: THE PATH is REAL");
        due.is("the TRAP is PLACE 0", Due.laid("p20;v00;c000;").mend(), NO);
        CubeChecker x = Due.laid("p21;v01;c101;e0101000;");
        due.are("by some first values", new int[] {x.mend(), x.count(5), x.count(7)}, NO, 0, 0);
        due.refused("mend(), REAL", MendBoundsTest::real, CubeChecker::mend, NO);
    }

    private static void mendNoAheadOfNone() {
        due.by("18 mend: of NO and NONE the first in this order");
        due.are("no COMPARISONS", new int[] {Due.laid("p21;").mend(), Due.laid("p21;e0190000;").mend(), Due.laid("p20;").mend(),
            Due.laid("p21;v00;e0190301;").mend()}, NO, NO, NO, NONE);
    }

    private static void mendWhere() {
        due.by("MENDED: at all PLACES that THE PATH comes by (with its last one): these are LOOKED AT there then");
        CubeChecker x = Due.laid("p65;v00;c009;c100;e0290000;e2490000;e4510000;e0190000;e1390000;");
        due.are("PLACES 0, 2, 4, 5", new int[] {x.mend(), x.looked(0), x.looked(1), x.looked(2), x.looked(3), x.looked(4), x.looked(5),
            x.count(5)}, 2, 2, 0, 2, 0, 2, 2, 4);
        CubeChecker twice = Due.laid("p21;v00;c107;c106;e0090201;e0101000;");
        twice.look(0, 0, 1);
        due.are("by PLACE 0 twice", new int[] {twice.path(-1), twice.path(-2), twice.mend(), twice.looked(0), twice.looked(1)},
            2, 1, 2, 3, 2);
        CubeChecker past = Due.laid("p43;v00;c100;e0190000;e1290000;e0300000;");
        due.are("not where other EDGES lead", new int[] {past.mend(), past.looked(0), past.looked(1), past.looked(2), past.looked(3)},
            1, 1, 0, 0, 1);
        CubeChecker shorter = Due.laid("p43;v00;c100;c101;e0190000;e1200000;e2390000;e0311000;");
        shorter.look(0, 1, 1);
        due.are("nor where an earlier PATH led", new int[] {shorter.path(-1), shorter.look(0, 1, 0), shorter.path(-1), shorter.mend(),
            shorter.looked(0), shorter.looked(1), shorter.looked(2), shorter.looked(3)}, 3, 0, 1, 1, 1, 0, 0, 1);
        CubeChecker kept = Due.laid("p32;v00;c100;c005;e0190000;e1200000;");
        kept.look(0, 1, 1);
        kept.look(2, 1, 1);
        due.are("what was LOOKED AT stays", new int[] {kept.mend(), kept.looked(0), kept.looked(1), kept.looked(2)}, 1, 3, 1, 3);
    }

    private static void mendLookedAtAlready() {
        due.by("MENDED: (some LOOKED AT already may be in it)");
        CubeChecker x = Due.laid("p32;v00;c100;e0190000;e1200000;");
        x.look(0, 0, 1);
        x.look(2, 0, 1);
        due.are("not at PLACE 1", new int[] {x.path(-1), x.mend(), x.looked(0), x.looked(1), x.looked(2), x.count(5), x.path(-1)},
            2, 1, 1, 1, 1, 3, NONE);
        CubeChecker two = Due.laid("p43;v07;v07;c301;c013;e0101000;e1211000;e2390303;");
        two.look(0, 0, 1);
        two.look(1, 0, 1);
        two.look(3, 1, 1);
        due.are("both in part", new int[] {two.mend(), two.looked(0), two.looked(1), two.looked(2), two.looked(3)}, 3, 3, 3, 3, 3);
    }

    private static void mendToo() {
        due.by("MENDED: were these LOOKED AT, too (those that are LOOKED AT help)");
        CubeChecker x = Due.laid("p43;v07;v07;c301;c013;e0101000;e1211000;e2390303;");
        x.look(2, 0, 1);
        x.look(1, 0, 1);
        due.are("1 and what is LOOKED AT", new int[] {x.mend(), x.looked(0), x.looked(1), x.looked(2)}, 2, 2, 3, 3);
    }

    private static void mendIsOneChange() {
        due.by("18 mend: a change: MENDED (one, whatever the set)");
        CubeChecker x = Due.laid("p43;v07;v07;c301;c013;e0101000;e1211000;e2390303;");
        due.are("mended and undone", new int[] {x.mend(), x.count(7), x.count(5), x.undo(), x.count(5), x.path(-1), x.undo()},
            3, 1, 8, 0, 0, 3, NO);
    }

    // ---- promise 19

    private static void checkRounds() {
        due.by("19 check: CHECKED in n rounds (1 to 9). BAD");
        CubeChecker x = Due.laid(TEN_WAYS);
        due.are("no such n", new int[] {x.check(0), x.check(-1), x.check(10), x.check(LOWEST), x.check(HIGHEST), x.count(5),
            x.count(7)}, BAD, BAD, BAD, BAD, BAD, 0, 0);
        due.are("SAFE or REAL, but no such n", new int[] {safe().check(0), safe().check(10), real().check(0), real().check(10),
            noSet().check(0), noSet().check(10)}, BAD, BAD, BAD, BAD, BAD, BAD);
        for (int n : new int[] {0, 10, -1}) {
            due.refused("check(" + n + ")", MendBoundsTest::unmended, y -> y.check(n), BAD);
            due.refused("check(" + n + "), SAFE", MendBoundsTest::safe, y -> y.check(n), BAD);
            due.refused("check(" + n + "), no set", MendBoundsTest::noSet, y -> y.check(n), BAD);
        }
    }

    private static void checkNeither() {
        due.by("19 check: 2 neither (so all n rounds were done)");
        for (int n = 1; n <= 9; n++) {
            CubeChecker x = Due.laid(TEN_WAYS);
            int direct = Math.min(n, 8);
            due.are("check(" + n + ")", new int[] {x.check(n), x.looked(0), x.looked(3), x.looked(1), x.looked(2), x.count(7)},
                2, (1 << direct) - 1, (1 << direct) - 1, n == 9 ? 1 : 0, 0, 1);
        }
    }

    private static void checkSafe() {
        due.by("19 check: 0 it is SAFE then (also if just the last round made it so)");
        CubeChecker x = Due.laid(TEN_WAYS);
        due.are("ten rounds", new int[] {x.check(9), x.check(1), x.looked(2), x.path(-1), x.count(5), x.count(7)}, 2, 0, 1, NONE, 18, 2);
        CubeChecker y = Due.laid(TEN_WAYS);
        y.check(1);
        due.are("one and nine rounds", new int[] {y.check(9), y.looked(2), y.path(-1)}, 0, 1, NONE);
        CubeChecker z = Due.laid(TEN_WAYS);
        z.check(2);
        due.are("two and more than are needed", new int[] {z.check(9), z.looked(2), z.count(5)}, 0, 1, 18);
        CubeChecker one = Due.laid("p21;v00;c101;e0101000;");
        due.are("one round is enough", new int[] {one.check(1), one.looked(0), one.path(-1)}, 0, 1, NONE);
        due.are("SAFE ahead of it", new int[] {one.check(1), one.check(9), one.looked(0), Due.laid("p21;").check(1)}, 0, 0, 1, 0);
    }

    private static void checkReal() {
        due.by("19 check: 1 THE PATH is REAL then (also if just the last round made it so)");
        CubeChecker x = Due.laid("p21;v00;c101;e0101000;e0100000;");
        due.are("in one round", new int[] {x.path(-2), x.check(1), x.looked(0), x.path(-1), x.path(0), x.path(-2)}, 0, 1, 1, 1, 1, 1);
        due.are("REAL ahead of it", new int[] {x.check(1), x.check(9), x.count(5), Due.laid("p20;").check(1)}, 1, 1, 2, 1);
        CubeChecker y = Due.laid("p21;v00;c007;c006;e0100000;e0110000;e0190000;");
        due.are("in two rounds", new int[] {y.check(2), y.looked(0), y.path(0)}, 1, 3, 2);
    }

    private static void checkNoSet() {
        due.by("19 check: 3 there was no such set (what was MENDED ahead of that stays)");
        due.are("in the first round", new int[] {Due.laid(NO_SET).check(1), Due.laid(NO_SET).check(9), Due.laid(NEEDS_THREE).check(9)},
            3, 3, 3);
        CubeChecker x = Due.laid("p21;v00;c101;e0101000;e0190301;");
        due.are("only one round", new int[] {x.check(1), x.looked(0), x.undo()}, 2, 1, 0);
        due.are("in the second", new int[] {x.check(2), x.looked(0), x.looked(1), x.path(0), x.count(7)}, 3, 1, 1, 1, 1);
        due.are("no more is done", new int[] {x.check(9), x.looked(0), x.looked(1)}, 3, 1, 1);
    }

    private static void checkOneChange() {
        due.by("19 check: (one change): however many rounds were done");
        CubeChecker x = Due.laid(TEN_WAYS);
        x.look(2, 7, 1);
        x.check(9);
        due.are("nine rounds undone at once", new int[] {x.count(7), x.undo(), x.count(5), x.looked(0), x.looked(1), x.looked(2),
            x.undo(), x.undo()}, 2, 1, 1, 0, 0, 128, 0, NO);
        CubeChecker none = Due.laid(SAFE);
        due.are("no round was needed", new int[] {none.check(9), none.count(7), none.undo(), none.undo()}, 0, 1, 0, NO);
        CubeChecker real = Due.laid(REAL);
        due.are("REAL ahead of it", new int[] {real.check(9), real.count(7), real.undo()}, 1, 1, 0);
        CubeChecker noSet = Due.laid(NO_SET);
        due.are("no set", new int[] {noSet.check(9), noSet.count(7), noSet.undo()}, 3, 1, 0);
    }

    // ---- promise 20

    private static void undoNo() {
        due.by("20 undo: NO");
        CubeChecker x = new CubeChecker();
        due.are("at first", new int[] {x.undo(), x.count(7), x.look(0, 0, 1), x.undo(), x.undo(), x.undo(), x.count(7)},
            NO, 0, 1, 0, NO, NO, 0);
        due.refused("undo() at first", () -> Due.written("p20;"), CubeChecker::undo, NO);
        due.refused("undo() behind lay()", () -> Due.laid(SAFE), CubeChecker::undo, NO);
        due.refused("undo() behind six", MendBoundsTest::sixUndone, CubeChecker::undo, NO);
    }

    private static CubeChecker sixUndone() {
        CubeChecker x = Due.laid(Due.AT_FIRST);
        for (int g = 0; g < 5; g++) x.look(0, g, 1);
        for (int i = 0; i < 3; i++) x.turn(3);
        for (int i = 0; i < 6; i++) x.undo();
        return x;
    }

    private static void undoSix() {
        due.by("20 undo: how many more can be (the last 6 can be)");
        for (int changes = 0; changes <= 9; changes++) {
            CubeChecker x = Due.laid("p20;v00;" + "c009;".repeat(8));
            for (int i = 0; i < changes; i++) x.look(i / 8, i % 8, 1);
            int can = Math.min(changes, 6);
            due.is(changes + " changes: count(7)", x.count(7), can);
            for (int left = can - 1; left >= 0; left--) due.is(changes + " changes: undo()", x.undo(), left);
            int stay = (1 << (changes - can)) - 1;
            due.are(changes + " changes undone", new int[] {x.undo(), x.looked(0), x.looked(1), x.count(5)}, NO, stay, 0, changes - can);
        }
    }

    private static void undoThenChange() {
        due.by("20 undo: UNDONE is the latest change; behind it changes can be made again, up to 6");
        CubeChecker x = Due.laid("p20;v00;" + "c009;".repeat(8));
        for (int g = 0; g < 6; g++) x.look(0, g, 1);
        due.are("two undone", new int[] {x.undo(), x.undo(), x.looked(0)}, 5, 4, 15);
        due.are("two others", new int[] {x.look(1, 7, 1), x.look(1, 6, 1), x.count(7)}, 1, 2, 6);
        due.are("these first", new int[] {x.undo(), x.looked(1), x.undo(), x.looked(1), x.undo(), x.looked(0)}, 5, 128, 4, 0, 3, 7);
        due.are("to the end", new int[] {x.undo(), x.undo(), x.undo(), x.undo(), x.looked(0)}, 2, 1, 0, NO, 0);
        CubeChecker many = Due.laid("p20;v00;c009;");
        for (int i = 0; i < 8; i++) many.look(0, 0, 1 - i % 2);
        due.are("eight, two undone", new int[] {many.undo(), many.undo(), many.count(7)}, 5, 4, 4);
        for (int i = 0; i < 3; i++) many.look(0, 0, 1 - i % 2);
        due.are("three more", new int[] {many.count(7), many.looked(0)}, 6, 1);
    }

    private static void undoEachKind() {
        due.by("A change: a COMPARISON LOOKED AT at a PLACE or not, an EDGE TURNED, MENDED, CHECKED: each is UNDONE");
        CubeChecker x = Due.laid("p32;v00;c100;c101;e0190000;e1200000;e1211000;");
        due.are("six", new int[] {x.look(0, 1, 1), x.look(0, 1, 0), x.turn(2), x.mend(), x.turn(2), x.check(9)}, 1, 0, 0, 1, 1, 0);
        due.are("then", new int[] {x.looked(0), x.looked(1), x.looked(2), x.edge(2, 3), x.path(-1), x.real(2, 0)}, 1, 1, 1, 1, NONE, NONE);
        due.are("CHECKED undone", new int[] {x.undo(), x.looked(0), x.looked(1), x.edge(2, 3), x.path(-1)}, 5, 1, 1, 1, NONE);
        due.are("turned undone", new int[] {x.undo(), x.looked(0), x.edge(2, 3), x.path(-1), x.path(1), x.path(-2), x.real(2, 0), x.run(1)},
            4, 1, 0, 2, 2, 2, 2, 2);
        due.are("MENDED undone", new int[] {x.undo(), x.looked(0), x.looked(1), x.looked(2), x.edge(2, 3), x.path(1), x.path(-2)},
            3, 0, 0, 0, 0, 1, 1);
        due.are("turned undone", new int[] {x.undo(), x.edge(2, 3), x.real(2, 0), x.run(-1)}, 2, 1, NONE, NONE);
        due.are("not LOOKED AT undone", new int[] {x.undo(), x.looked(0)}, 1, 2);
        due.are("LOOKED AT undone", new int[] {x.undo(), x.looked(0), x.undo()}, 0, 0, NO);
    }

    private static void undoEachEdge() {
        due.by("A change: an EDGE TURNED (it asks for the other T): T of each of 14 EDGES, 0 and 1, is as it was");
        CubeChecker x = Due.laid("p20;v00;c000;" + "e0100000;e0101000;".repeat(7));
        for (int e = 0; e < 14; e++) {
            int told = e % 2;
            due.are("EDGE " + e, new int[] {x.turn(e), x.edge(e, 3), x.undo(), x.edge(e, 3)}, 1 - told, 1 - told, 0, told);
        }
        for (int e = 8; e < 14; e++) x.turn(e);
        for (int left = 5; left >= 0; left--) x.undo();
        for (int e = 0; e < 14; e++) due.is("EDGE " + e + " behind all", x.edge(e, 3), e % 2);
        x.turn(0);
        x.look(0, 0, 1);
        x.undo();
        due.are("undone is the look alone", new int[] {x.edge(0, 3), x.edge(1, 3), x.looked(0), x.count(7)}, 1, 1, 0, 1);
    }

    private static void undoEachPlace() {
        due.by("A change: a COMPARISON LOOKED AT at a PLACE or not: each of 8 at each of 8 PLACES is as it was");
        for (int p = 0; p < 8; p++) {
            CubeChecker x = Due.laid("p80;v00;" + "c009;".repeat(8));
            for (int g = 0; g < 8; g++) {
                due.are("COMPARISON " + g + " at " + p, new int[] {x.look(p, g, 1), x.looked(p), x.undo(), x.looked(p), x.count(5)},
                    1, 1 << g, 0, 0, 0);
            }
        }
    }

    private static void undoNoOther() {
        due.by("20 undo: what is refused, asked, written, wiped or UNDONE is no change");
        CubeChecker x = Due.laid("p32;v00;c100;c101;e0190000;e1200000;e1211000;");
        x.look(0, 0, 1);
        x.look(0, 0, 1);
        x.look(9, 0, 1);
        x.turn(0);
        x.turn(9);
        x.check(0);
        x.write('x');
        x.wipe();
        x.fault();
        x.lay();
        Due.everything(x);
        due.are("one change", new int[] {x.count(7), x.undo(), x.looked(0), x.undo(), x.count(7)}, 1, 0, 0, NO, 0);
        CubeChecker y = Due.laid(NO_SET);
        due.are("no set", new int[] {y.mend(), y.count(7)}, NONE, 0);
    }

    private static void undoLaid() {
        due.by("20 undo: (.. behind LAID none can be)");
        CubeChecker x = new CubeChecker();
        for (int i = 0; i < 6; i++) x.turn(3);
        Due.write(x, SAFE);
        due.are("LAID", new int[] {x.lay(), x.count(7), x.undo(), x.count(0)}, 3, 0, NO, 3);
        x.write('x');
        x.look(0, 0, 1);
        due.are("not LAID", new int[] {x.lay(), x.count(7), x.undo(), x.looked(0)}, NO, 1, 0, 0);
    }

    // ---- promise 21

    private static void countWhat() {
        due.by("21 count: 0 PLACES .. 8 letters of THE TEXT. BAD");
        CubeChecker x = Due.laid("p53;v00;v00;c105;c004;c301;e0100000;e1490000;");
        x.look(0, 0, 1);
        int[] want = {5, 3, 2, 3, 2, 1, 3, 1, 45};
        for (int what = 0; what <= 8; what++) due.is("count(" + what + ")", x.count(what), want[what]);
        due.are("no such what", new int[] {x.count(-1), x.count(9), x.count(10), x.count(LOWEST), x.count(HIGHEST)}, BAD, BAD, BAD, BAD, BAD);
        due.refused("count(9)", MendBoundsTest::unmended, y -> y.count(9), BAD);
        due.refused("count(-1)", MendBoundsTest::unmended, y -> y.count(-1), BAD);
    }

    private static void countLeast() {
        due.by("21 count: the least of each");
        CubeChecker x = Due.laid("p20;");
        x.wipe();
        int[] want = {2, 0, 0, 0, 0, 0, 1, 0, 0};
        for (int what = 0; what <= 8; what++) due.is("count(" + what + ")", x.count(what), want[what]);
    }

    private static void countMost() {
        due.by("21 count: the most of each; LOOKED AT at all PLACES together");
        CubeChecker x = Due.laid(Due.ALL_FULL);
        for (int p = 0; p < 8; p++) {
            for (int g = 0; g < 8; g++) x.look(p, g, 1);
        }
        for (int i = 182; i < 200; i++) x.write('x');
        due.are("counts", new int[] {x.count(0), x.count(1), x.count(2), x.count(3), x.count(4), x.count(5), x.count(7), x.count(8)},
            8, 7, 3, 8, 14, 64, 6, 200);
        due.are("one fewer", new int[] {x.look(7, 7, 0), x.count(5), x.looked(7)}, 7, 63, 127);
    }

    private static void countStates() {
        due.by("21 count: 6 STATES that come, of all PLACES");
        CubeChecker x = Due.laid("p87;v07;c101;c102;c103;c104;c105;c106;c107;c008;e0190000;e1290000;e2390000;e3490000;e4590000;"
            + "e5690000;e6790000;");
        due.is("nothing LOOKED AT", x.count(6), 8);
        for (int p = 0; p < 8; p++) {
            for (int g = 0; g < 8; g++) x.look(p, g, 1);
            due.is("all LOOKED AT at " + p + " PLACES more", x.count(6), 8 * (p + 1) + 7 - p);
        }
        due.is("SAFE", Due.laid(SAFE).count(6), 2);
    }

    // ---- 512 calls

    private static void lastCall() {
        due.by("An object is used for at most 512 calls: the last ones answer as the first ones");
        CubeChecker x = new CubeChecker();
        for (int i = 0; i < 505; i++) x.turn(3);
        due.are("506 to 512", new int[] {x.edge(3, 3), x.count(7), x.undo(), x.edge(3, 3), x.check(1), x.looked(1), x.path(-1)},
            1, 6, 5, 0, 0, 4, NONE);
    }

    public static void main(String[] args) {
        mendOne();
        mendTwo();
        mendFewest();
        mendLeast();
        mendNone();
        mendNotSafe();
        mendNotReal();
        mendNoAheadOfNone();
        mendWhere();
        mendLookedAtAlready();
        mendToo();
        mendIsOneChange();
        checkRounds();
        checkNeither();
        checkSafe();
        checkReal();
        checkNoSet();
        checkOneChange();
        undoNo();
        undoSix();
        undoThenChange();
        undoEachKind();
        undoEachEdge();
        undoEachPlace();
        undoNoOther();
        undoLaid();
        countWhat();
        countLeast();
        countMost();
        countStates();
        lastCall();
        due.end();
    }
}
