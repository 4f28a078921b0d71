import java.util.ArrayList;
import java.util.List;
import java.util.TreeSet;

/** The bounds that the document names by promises 12 to 17, what may be: one sentence each. */
public final class MayBoundsTest {
    private static final int BAD = Due.BAD, NO = Due.NO, NONE = Due.NONE;
    private static final int LOWEST = Due.LOWEST, HIGHEST = Due.HIGHEST;
    private static final Due due = new Due();
    private static final String ALL_SO = "c009;".repeat(8);
    /** May be trapped, but is not. */
    private static final String SMALL = "p32;v01;v00;c002;c101;c100;e0190000;e1201201;e1221000;";
    private static final String SAFE = "p32;v01;c002;e0190000;e2190000;";

    private static CubeChecker small() {
        CubeChecker x = Due.laid(SMALL);
        x.look(0, 1, 1);
        x.look(1, 2, 1);
        x.turn(1);
        return x;
    }

    private static CubeChecker safe() {
        CubeChecker x = Due.laid(SAFE);
        x.look(0, 0, 1);
        return x;
    }

    private static void lookAtAll(CubeChecker x, int p) {
        for (int g = 0; g < 8; g++) x.look(p, g, 1);
    }

    // ---- promise 12

    private static void lookWhere() {
        due.by("12 look: BAD (PLACES such as there are)");
        CubeChecker two = Due.laid("p20;v00;c000;");
        due.are("two", new int[] {two.look(-1, 0, 1), two.look(2, 0, 1), two.look(LOWEST, 0, 1), two.look(HIGHEST, 0, 1),
            two.look(0, 0, 1), two.look(1, 0, 1)}, BAD, BAD, BAD, BAD, 1, 1);
        CubeChecker eight = Due.laid("p80;v00;c000;");
        due.are("eight", new int[] {eight.look(7, 0, 1), eight.look(8, 0, 1), eight.look(8, 0, 0)}, 1, BAD, BAD);
        due.refused("look(3, 0, 1)", MayBoundsTest::small, x -> x.look(3, 0, 1), BAD);
        due.refused("look(-1, 0, 1)", MayBoundsTest::small, x -> x.look(-1, 0, 1), BAD);
    }

    private static void lookWhich() {
        due.by("12 look: BAD (COMPARISONS such as there are)");
        due.is("none", Due.laid("p20;v00;").look(0, 0, 1), BAD);
        CubeChecker one = Due.laid("p20;v00;c000;");
        due.are("one", new int[] {one.look(0, -1, 1), one.look(0, 1, 1), one.look(0, LOWEST, 1), one.look(0, HIGHEST, 1),
            one.look(0, 9, 1), one.look(0, 32, 1), one.look(0, 0, 1)}, BAD, BAD, BAD, BAD, BAD, BAD, 1);
        CubeChecker eight = Due.laid("p20;v00;" + ALL_SO);
        due.are("eight", new int[] {eight.look(0, 7, 1), eight.look(0, 8, 1)}, 1, BAD);
        due.refused("look(0, 3, 1)", MayBoundsTest::small, x -> x.look(0, 3, 1), BAD);
        due.refused("look(0, -1, 0)", MayBoundsTest::small, x -> x.look(0, -1, 0), BAD);
    }

    private static void lookOrNot() {
        due.by("12 look: LOOKED AT (is = 1) at a PLACE or not (0). BAD");
        CubeChecker x = Due.laid("p20;v00;c000;");
        due.are("is", new int[] {x.look(0, 0, -1), x.look(0, 0, 2), x.look(0, 0, LOWEST), x.look(0, 0, HIGHEST), x.looked(0),
            x.look(0, 0, 1), x.look(0, 0, 2), x.look(0, 0, -1), x.looked(0), x.look(0, 0, 0), x.looked(0)},
            BAD, BAD, BAD, BAD, 0, 1, BAD, BAD, 1, 0, 0);
        due.refused("look(0, 0, 2)", MayBoundsTest::small, y -> y.look(0, 0, 2), BAD);
        due.refused("look(0, 1, -1)", MayBoundsTest::small, y -> y.look(0, 1, -1), BAD);
    }

    private static void lookHowMany() {
        due.by("12 look: how many are there then (from none to 8, at this PLACE alone)");
        CubeChecker x = Due.laid("p20;v00;" + ALL_SO);
        for (int g = 7; g >= 0; g--) due.is("look(1, " + g + ", 1)", x.look(1, g, 1), 8 - g);
        due.is("look(0, 3, 1)", x.look(0, 3, 1), 1);
        for (int g = 0; g < 8; g++) due.is("look(1, " + g + ", 0)", x.look(1, g, 0), 7 - g);
        due.are("the other PLACE", new int[] {x.looked(0), x.looked(1)}, 8, 0);
    }

    private static void lookIsSo() {
        due.by("12 look: NO: it is so (already)");
        CubeChecker x = Due.laid("p20;v00;c000;c000;");
        due.are("look", new int[] {x.look(0, 0, 0), x.look(0, 0, 1), x.look(0, 0, 1), x.look(1, 0, 0), x.look(0, 1, 0),
            x.look(0, 0, 0), x.look(0, 0, 0), x.count(7)}, NO, 1, NO, NO, NO, 0, NO, 2);
        due.refused("look(0, 1, 1)", MayBoundsTest::small, y -> y.look(0, 1, 1), NO);
        due.refused("look(0, 2, 0)", MayBoundsTest::small, y -> y.look(0, 2, 0), NO);
    }

    private static void lookBadAheadOfNo() {
        due.by("12 look: of BAD and NO the first in this order");
        CubeChecker x = Due.laid("p20;v00;c000;");
        due.are("not LOOKED AT there", new int[] {x.look(2, 0, 0), x.look(-1, 0, 0), x.look(0, 1, 0), x.look(0, -1, 0),
            x.look(2, 1, 0), x.look(0, 0, 0)}, BAD, BAD, BAD, BAD, BAD, NO);
    }

    // ---- promise 13

    private static void lookedBits() {
        due.by("13 looked: COMPARISONS that are LOOKED AT at a PLACE, as bits (none at first)");
        CubeChecker x = Due.laid("p20;v00;" + ALL_SO);
        due.are("at first", new int[] {x.looked(0), x.looked(1)}, 0, 0);
        int bits = 0;
        for (int g = 7; g >= 0; g--) {
            x.look(1, g, 1);
            bits |= 1 << g;
            due.is("looked(1)", x.looked(1), bits);
        }
        due.are("all and none", new int[] {x.looked(1), x.looked(0)}, 255, 0);
        due.are("all but the highest", new int[] {x.look(1, 7, 0), x.looked(1)}, 7, 127);
    }

    private static void lookedWhere() {
        due.by("13 looked: BAD");
        CubeChecker two = Due.laid("p20;");
        CubeChecker eight = Due.laid("p80;");
        due.are("looked", new int[] {two.looked(-1), two.looked(1), two.looked(2), eight.looked(7), eight.looked(8),
            eight.looked(LOWEST), eight.looked(HIGHEST)}, BAD, 0, BAD, 0, BAD, BAD, BAD);
        due.refused("looked(3)", MayBoundsTest::small, x -> x.looked(3), BAD);
        due.refused("looked(-1)", MayBoundsTest::small, x -> x.looked(-1), BAD);
    }

    // ---- promise 14

    private static void mayWhich() {
        due.by("14 may: BAD (EDGES such as there are)");
        CubeChecker x = Due.laid("p20;e0190000;");
        due.are("one", new int[] {x.may(-1, 0, 0), x.may(0, 0, 0), x.may(1, 0, 0), x.may(LOWEST, 0, 0), x.may(HIGHEST, 0, 0)},
            BAD, 1, BAD, BAD, BAD);
        due.is("none", Due.laid("p20;").may(0, 0, 0), BAD);
        CubeChecker full = Due.laid(Due.ALL_FULL);
        due.are("14", new int[] {full.may(13, 0, 0), full.may(14, 0, 0)}, 1, BAD);
        due.refused("may(3, 0, 0)", MayBoundsTest::small, y -> y.may(3, 0, 0), BAD);
    }

    private static void mayCubes() {
        due.by("14 may: a CUBE (0 to 255). BAD");
        CubeChecker x = Due.laid("p20;v00;" + ALL_SO + "e0190000;");
        lookAtAll(x, 0);
        lookAtAll(x, 1);
        due.are("255", new int[] {x.may(0, 255, 255), x.may(0, 255, 254), x.may(0, 254, 255), x.may(0, 0, 0), x.may(0, 127, 255)},
            1, 0, 0, 0, 0);
        due.are("none of these", new int[] {x.may(0, 256, 0), x.may(0, 0, 256), x.may(0, -1, 0), x.may(0, 0, -1),
            x.may(0, 256, 256), x.may(0, LOWEST, 0), x.may(0, 0, HIGHEST), x.may(0, 255, 511), x.may(0, 511, 255)},
            BAD, BAD, BAD, BAD, BAD, BAD, BAD, BAD, BAD);
        due.refused("may(0, 256, 0)", MayBoundsTest::small, y -> y.may(0, 256, 0), BAD);
        due.refused("may(0, 0, -1)", MayBoundsTest::small, y -> y.may(0, 0, -1), BAD);
    }

    private static void mayNoState() {
        due.by("14 may: 0 (also if there is no such STATE)");
        CubeChecker x = Due.laid("p20;v00;c101;c102;c003;e0190000;");
        due.are("nothing LOOKED AT", new int[] {x.may(0, 0, 0), x.may(0, 1, 0), x.may(0, 0, 1), x.may(0, 255, 255), x.may(0, 8, 0)},
            1, 0, 0, 0, 0);
        x.look(0, 0, 1);
        x.look(0, 1, 1);
        x.look(1, 2, 1);
        due.are("x is 1 and 2", new int[] {x.may(0, 3, 4), x.may(0, 3, 0)}, 0, 0);
        due.are("bits that are not LOOKED AT there", new int[] {x.may(0, 5, 4), x.may(0, 1, 5), x.may(0, 1, 4), x.may(0, 0, 4),
            x.may(0, 0, 0), x.may(0, 2, 4), x.may(0, 2, 0)}, 0, 0, 1, 1, 1, 1, 0);
        CubeChecker never = Due.laid("p20;v00;e0190209;e0190309;");
        due.are("no values can go", new int[] {never.may(0, 0, 0), never.may(1, 0, 0)}, 0, 0);
    }

    private static void mayAnyValues() {
        due.by("a STATE MAY become another: with some values (0 to 7 each, whether a RUN comes to them or not)");
        CubeChecker x = Due.laid("p43;v33;c107;c100;e0190201;e1290301;e3390000;");
        x.look(1, 0, 1);
        x.look(1, 1, 1);
        due.are("6 becomes 7, none becomes 0", new int[] {x.may(0, 0, 1), x.may(0, 0, 0), x.may(0, 0, 2)}, 1, 1, 0);
        due.are("7 becomes 6, 0 nothing", new int[] {x.may(1, 1, 0), x.may(1, 0, 0), x.may(1, 2, 0)}, 1, 1, 0);
        due.are("from where nothing comes", new int[] {x.may(2, 0, 0), x.state(3, -1)}, 1, 0);
        CubeChecker all = Due.laid("p21;v00;v00;v00;c107;c117;c127;e0190000;");
        for (int g = 0; g < 3; g++) {
            all.look(0, g, 1);
            all.look(1, g, 1);
        }
        due.are("the highest of all", new int[] {all.may(0, 7, 7), all.may(0, 0, 0), all.may(0, 7, 6), all.state(0, -1)}, 1, 1, 0, 1);
    }

    private static void mayAtBoth() {
        due.by("14 may: the STATE of its PLACE A with a CUBE, that of B with another one: each as LOOKED AT there");
        CubeChecker x = Due.laid("p20;v00;c001;c007;e0190201;e0010000;");
        x.look(0, 0, 1);
        x.look(1, 1, 1);
        due.are("0 to 1", new int[] {x.may(0, 1, 2), x.may(0, 1, 0), x.may(0, 0, 2), x.may(0, 0, 0), x.may(0, 1, 1), x.may(0, 2, 2)},
            1, 0, 1, 1, 0, 0);
        due.are("0 to 0", new int[] {x.may(1, 0, 0), x.may(1, 1, 1), x.may(1, 1, 0), x.may(1, 0, 1)}, 1, 0, 0, 0);
    }

    // ---- promise 15

    private static void stateWhere() {
        due.by("15 state: BAD (PLACES such as there are); it is ahead of NONE");
        CubeChecker two = Due.laid("p20;");
        CubeChecker eight = Due.laid("p80;");
        due.are("PLACES", new int[] {two.state(-1, -1), two.state(0, -1), two.state(1, -1), two.state(2, -1), two.state(2, 0),
            two.state(-1, 9), eight.state(7, -1), eight.state(8, -1), two.state(LOWEST, 0), two.state(HIGHEST, 0)},
            BAD, 1, 0, BAD, BAD, BAD, 0, BAD, BAD, BAD);
        due.refused("state(3, 0)", MayBoundsTest::small, x -> x.state(3, 0), BAD);
    }

    private static void stateBad() {
        due.by("15 state: BAD (i below -1)");
        CubeChecker x = Due.laid("p20;");
        due.are("state", new int[] {x.state(0, -2), x.state(1, -2), x.state(0, LOWEST), x.state(0, -1)}, BAD, BAD, BAD, 1);
        due.refused("state(0, -2)", MayBoundsTest::small, y -> y.state(0, -2), BAD);
    }

    private static void stateNone() {
        due.by("15 state: NONE: not so many");
        CubeChecker x = Due.laid("p32;v01;c100;e0190000;");
        x.look(0, 0, 1);
        due.are("two, one, none", new int[] {x.state(0, 1), x.state(0, 2), x.state(0, HIGHEST), x.state(1, 0), x.state(1, 1),
            x.state(2, -1), x.state(2, 0)}, 1, NONE, NONE, 0, NONE, 0, NONE);
        due.refused("state(0, 9)", MayBoundsTest::small, y -> y.state(0, 9), NONE);
    }

    private static void stateLowestFirst() {
        due.by("15 state: the CUBE of the i-th, the lowest first (however late it comes)");
        CubeChecker x = Due.laid("p21;v22;c102;c101;c100;e0090301;");
        for (int g = 0; g < 3; g++) x.look(0, g, 1);
        due.are("2, 1, 0 come one behind the other", new int[] {x.state(0, -1), x.state(0, 0), x.state(0, 1), x.state(0, 2),
            x.state(0, 3)}, 3, 1, 2, 4, NONE);
        CubeChecker down = Due.laid("p21;v00;c100;c101;c102;e0090201;");
        for (int g = 0; g < 3; g++) down.look(0, g, 1);
        due.are("0, 1, 2, more come", new int[] {down.state(0, -1), down.state(0, 0), down.state(0, 1), down.state(0, 2),
            down.state(0, 3), down.state(0, 4)}, 4, 0, 1, 2, 4, NONE);
    }

    private static int cubeOf(int x, int y, int z) {
        return (x < 4 ? 1 : 0) | (y < 3 ? 2 : 0) | (z < 6 ? 4 : 0) | (x < y ? 8 : 0) | (y < z ? 16 : 0) | (z < x ? 32 : 0)
            | (x + y < 8 ? 64 : 0) | (y + z < 8 ? 128 : 0);
    }

    private static void stateMany() {
        due.by("15 state: CUBES are bits of those LOOKED AT that are so: all that there can be, at all PLACES");
        String text = "v07;v07;v07;c004;c013;c026;c201;c212;c220;c401;c412;";
        TreeSet<Integer> cubes = new TreeSet<>();
        for (int values = 0; values < 512; values++) cubes.add(cubeOf(values / 64, values / 8 % 8, values % 8));
        CubeChecker x = Due.laid("p21;" + text + "e0190000;");
        lookAtAll(x, 0);
        lookAtAll(x, 1);
        List<Integer> got = new ArrayList<>();
        for (int i = 0; i < cubes.size(); i++) got.add(x.state(0, i));
        due.same("CUBES at PLACE 0", got, new ArrayList<>(cubes));
        due.are("how many", new int[] {x.state(0, -1), x.state(1, -1), x.count(6), x.state(1, cubes.size() - 1),
            x.state(1, cubes.size())}, cubes.size(), cubes.size(), 2 * cubes.size(), cubes.last(), NONE);
    }

    // ---- part 2: how STATES come

    private static void cubeBits() {
        due.by("The CUBE of values at a PLACE: which of those LOOKED AT there are so (bits; others 0)");
        CubeChecker x = Due.laid("p21;v00;c009;c100;c009;c000;c009;c101;c009;c009;e0190000;");
        due.are("nothing LOOKED AT", new int[] {x.state(0, 0), x.state(1, 0)}, 0, 0);
        int bits = 0;
        for (int g = 7; g >= 0; g--) {
            x.look(0, g, 1);
            if (g != 3 && g != 5) bits |= 1 << g;
            due.are("from " + g + " on", new int[] {x.state(0, -1), x.state(0, 0), x.state(1, 0)}, 1, bits, 0);
        }
        x.look(0, 7, 0);
        due.are("no more the highest", new int[] {x.state(0, 0), x.looked(0)}, 1 + 2 + 4 + 16 + 64, 127);
    }

    private static void statesOfFirstValues() {
        due.by("STATES come: first those of PLACE 0 that first values have, by CUBES, the lowest ahead");
        CubeChecker x = Due.laid("p32;v13;c101;c102;e0101000;e0111000;e0100000;e1290000;");
        x.look(0, 0, 1);
        x.look(0, 1, 1);
        due.are("3, then 1, then 2", new int[] {x.state(0, -1), x.path(-1), x.path(0), x.path(1)}, 3, 2, 2, 3);
        CubeChecker y = Due.laid("p32;v12;c101;c102;e0111000;e0101000;e1290000;");
        y.look(0, 0, 1);
        y.look(0, 1, 1);
        due.are("1 (CUBE 1), then 2 (CUBE 2)", new int[] {y.state(0, -1), y.path(-1), y.path(0)}, 2, 2, 1);
        CubeChecker z = Due.laid("p32;v13;c101;c102;c003;e0120000;e0111000;e0101000;e1290000;");
        for (int g = 0; g < 3; g++) z.look(0, g, 1);
        due.are("3 (CUBE 0), then 1 (CUBE 5), then 2 (CUBE 6)", new int[] {z.state(0, 0), z.state(0, 1), z.state(0, 2), z.path(0),
            z.path(1)}, 0, 5, 6, 0, 3);
        CubeChecker only = Due.laid("p20;v11;c101;");
        only.look(0, 0, 1);
        due.are("only those of first values", new int[] {only.state(0, -1), only.state(0, 0)}, 1, 1);
    }

    private static void statesOneBehindTheOther() {
        due.by("STATES come: of each that has come, one behind the other");
        CubeChecker x = Due.laid("p43;e0190000;e1290000;e2390000;e0290000;");
        due.are("2 comes from 0, not from 1", new int[] {x.path(-1), x.path(0), x.path(1)}, 2, 3, 2);
    }

    private static void statesByEdges() {
        due.by("STATES come: by EDGES from its PLACE, 0 first");
        CubeChecker x = Due.laid("p43;e1390000;e0290000;e0190000;e2390000;e0290000;");
        due.are("2 by EDGE 1, ahead of 1", new int[] {x.path(-1), x.path(0), x.path(1)}, 2, 1, 3);
        CubeChecker last = Due.laid("p21;" + "e1090000;".repeat(13) + "e0190000;");
        due.are("EDGE 13", new int[] {last.path(-1), last.path(0)}, 1, 13);
    }

    private static void statesByCubes() {
        due.by("STATES come: by EDGES .. and CUBES, the lowest first");
        CubeChecker x = Due.laid("p32;v01;c101;e0190000;e1201000;e1200000;");
        x.look(1, 0, 1);
        due.are("0 ahead of 1", new int[] {x.state(1, -1), x.path(-1), x.path(0), x.path(1)}, 2, 2, 0, 2);
        CubeChecker y = Due.laid("p32;v12;c101;c102;e0190000;e1211000;e1201000;");
        y.look(1, 0, 1);
        y.look(1, 1, 1);
        due.are("0 has no EDGE, 1 ahead of 2", new int[] {y.state(1, -1), y.path(-1), y.path(0), y.path(1)}, 3, 2, 0, 2);
        CubeChecker z = Due.laid("p32;v13;c009;c101;c102;e0190000;e1221000;e1211000;e1200000;");
        for (int g = 0; g < 3; g++) z.look(1, g, 1);
        due.are("1 has no EDGE, 3 ahead of 5", new int[] {z.state(1, 0), z.state(1, 1), z.state(1, 2), z.path(0), z.path(1)},
            1, 3, 5, 0, 2);
        CubeChecker edges = Due.laid("p32;v01;c101;e0190101;e0190100;e1201000;e1200000;");
        edges.look(1, 0, 1);
        due.are("but EDGES ahead of CUBES", new int[] {edges.path(-1), edges.path(0), edges.path(1)}, 2, 0, 2);
    }

    private static void statesOnce() {
        due.by("STATES come: each .. that has not come yet; THE PATH: each from that by which it came first");
        CubeChecker x = Due.laid("p43;e0090000;e0190000;e0290000;e1290000;e2190000;e1390000;e2390000;e3090000;");
        due.are("once each", new int[] {x.count(6), x.state(0, -1), x.state(1, -1), x.state(2, -1), x.state(3, -1)}, 4, 1, 1, 1, 1);
        due.are("THE PATH", new int[] {x.path(-1), x.path(0), x.path(1)}, 2, 1, 5);
    }

    private static void statesBehindTheTrap() {
        due.by("STATES come: (from STATES of the TRAP on, too)");
        CubeChecker x = Due.laid("p41;v00;c101;e0190000;e1290201;e2390000;");
        x.look(3, 0, 1);
        due.are("behind the TRAP", new int[] {x.state(2, -1), x.state(3, -1), x.state(3, 1), x.count(6), x.path(-1)}, 1, 2, 1, 5, 1);
        CubeChecker here = Due.laid("p20;v00;e0190000;");
        due.are("from the TRAP at PLACE 0", new int[] {here.state(1, -1), here.count(6)}, 1, 2);
    }

    // ---- promise 16

    private static void foundBits() {
        due.by("16 found: those LOOKED AT there that are so in all its STATES that come");
        CubeChecker x = Due.laid("p32;v01;c002;c100;c009;e0190000;");
        due.are("nothing LOOKED AT", new int[] {x.found(0), x.found(1)}, 0, 0);
        x.look(0, 0, 1);
        due.are("one", new int[] {x.found(0), x.found(1)}, 1, 0);
        x.look(0, 1, 1);
        due.are("x is 0 not in all", new int[] {x.found(0), x.state(0, -1)}, 1, 2);
        x.look(0, 2, 1);
        due.is("two", x.found(0), 5);
        CubeChecker all = Due.laid("p20;v00;" + ALL_SO);
        lookAtAll(all, 0);
        due.is("all 8", all.found(0), 255);
    }

    private static void foundAll() {
        due.by("16 found: (all LOOKED AT, if none comes)");
        CubeChecker x = Due.laid("p21;v00;" + "c000;".repeat(8));
        due.is("nothing LOOKED AT", x.found(1), 0);
        for (int g = 7; g >= 0; g--) x.look(1, g, 1);
        due.are("all LOOKED AT", new int[] {x.found(1), x.state(1, -1)}, 255, 0);
        x.look(1, 0, 0);
        due.is("all but one", x.found(1), 254);
    }

    private static void foundWhere() {
        due.by("16 found: BAD");
        CubeChecker two = Due.laid("p20;");
        CubeChecker eight = Due.laid("p80;");
        due.are("found", new int[] {two.found(-1), two.found(1), two.found(2), eight.found(7), eight.found(8), two.found(LOWEST),
            two.found(HIGHEST)}, BAD, 0, BAD, 0, BAD, BAD, BAD);
        due.refused("found(3)", MayBoundsTest::small, x -> x.found(3), BAD);
        due.refused("found(-1)", MayBoundsTest::small, x -> x.found(-1), BAD);
    }

    // ---- promise 17

    private static void pathBad() {
        due.by("17 path: BAD (i below -2); it is ahead of NONE");
        CubeChecker x = Due.laid("p21;e0190000;");
        due.are("a PATH", new int[] {x.path(-3), x.path(-4), x.path(LOWEST), x.path(-2), x.path(-1)}, BAD, BAD, BAD, 1, 1);
        CubeChecker safe = Due.laid("p21;");
        due.are("SAFE", new int[] {safe.path(-3), safe.path(-4), safe.path(LOWEST), safe.path(-2)}, BAD, BAD, BAD, NONE);
        due.refused("path(-3)", MayBoundsTest::small, y -> y.path(-3), BAD);
        due.refused("path(-3), SAFE", MayBoundsTest::safe, y -> y.path(-3), BAD);
    }

    private static void pathSafe() {
        due.by("17 path: NONE: it is SAFE (no STATE of the TRAP comes)");
        CubeChecker x = Due.laid("p21;e1090000;");
        due.are("path", new int[] {x.path(-2), x.path(-1), x.path(0), x.path(HIGHEST)}, NONE, NONE, NONE, NONE);
        CubeChecker y = Due.laid("p21;v00;c100;e0100000;");
        due.are("till it is looked at", new int[] {y.path(-1), y.look(0, 0, 1), y.path(-1), y.path(-2), y.look(0, 0, 0), y.path(-1)},
            1, 1, NONE, NONE, 0, 1);
        for (int i = -2; i <= 0; i++) {
            int which = i;
            due.refused("path(" + i + "), SAFE", MayBoundsTest::safe, z -> z.path(which), NONE);
        }
    }

    private static void pathNotSoMany() {
        due.by("17 path: how many EDGES (i = -1), its i-th EDGE (0 the first). NONE: there are not so many");
        CubeChecker x = Due.laid("p32;e0190000;e1290000;");
        due.are("two", new int[] {x.path(-1), x.path(0), x.path(1), x.path(2), x.path(3), x.path(HIGHEST)}, 2, 0, 1, NONE, NONE, NONE);
        CubeChecker eight = Due.laid("p87;e6790000;e5690000;e4590000;e3490000;e2390000;e1290000;e0190000;");
        due.are("seven", new int[] {eight.path(-1), eight.path(0), eight.path(6), eight.path(7)}, 7, 6, 0, NONE);
        due.refused("path(9)", MayBoundsTest::small, y -> y.path(9), NONE);
    }

    private static void pathAtPlace0() {
        due.by("17 path: (no EDGE, if the TRAP is PLACE 0): it is not SAFE, and REAL");
        CubeChecker x = Due.laid("p20;v00;e0190000;e1090000;");
        due.are("path", new int[] {x.path(-1), x.path(-2), x.path(0), x.path(-3), x.mend(), x.check(1)}, 0, 0, NONE, BAD, NO, 1);
    }

    private static void pathFar() {
        due.by("17 path: FAR of it (i = -2): the most EDGES of it, from its first on, that are a RUN: from none to all");
        String text = "p54;v33;e0190201;e1290201;e2390201;e3490000;";
        due.are("all", new int[] {Due.laid(text).path(-1), Due.laid(text).path(-2)}, 4, 4);
        for (String way : List.of("e0190304;", "e0190205;")) {
            CubeChecker x = Due.laid("p21;v33;" + way);
            due.are("none by " + way, new int[] {x.path(-1), x.path(-2)}, 1, 0);
        }
        for (int far = 0; far < 4; far++) {
            StringBuilder row = new StringBuilder("p54;v33;");
            for (int i = 0; i < 4; i++) row.append("e" + i + (i + 1) + (i == far ? "90304;" : "90000;"));
            due.is("FAR of " + row, Due.laid(row.toString()).path(-2), far);
        }
    }

    private static void pathFarOfOne() {
        due.by("A RUN is a row of EDGES, each GONE behind the other, from PLACE 0 and some first values");
        CubeChecker x = Due.laid("p32;v01;c101;e0101000;e1200000;");
        due.are("no first values for both", new int[] {x.path(-1), x.path(-2)}, 2, 1);
        CubeChecker y = Due.laid("p32;v02;c102;e0190202;e1201000;");
        due.are("only by the lowest", new int[] {y.path(-1), y.path(-2), y.run(-1)}, 2, 2, 2);
        CubeChecker z = Due.laid("p32;v02;c104;e0190202;e1201000;");
        due.are("only by the highest", new int[] {z.path(-1), z.path(-2), z.run(-1)}, 2, 2, 2);
        CubeChecker w = Due.laid("p32;v02;c105;e0190202;e1201000;");
        due.are("by none", new int[] {w.path(-1), w.path(-2), w.run(-1)}, 2, 1, NONE);
    }

    private static void pathLong() {
        due.by("17 path: a PATH that goes round as often as what is LOOKED AT tells apart");
        CubeChecker x = Due.laid("p21;v00;c101;c102;c103;c104;c105;c106;c107;e0090201;e0161000;");
        due.are("nothing LOOKED AT", new int[] {x.path(-1), x.path(-2), x.path(0)}, 1, 0, 1);
        x.look(0, 6, 1);
        due.are("x is 7", new int[] {x.path(-1), x.path(-2), x.path(0), x.path(1)}, 2, 1, 0, 1);
        for (int g = 0; g < 6; g++) x.look(0, g, 1);
        due.are("each x", new int[] {x.path(-1), x.path(-2), x.path(0), x.path(6), x.path(7), x.path(8), x.run(-1)},
            8, 8, 0, 0, 1, NONE, 8);
    }

    public static void main(String[] args) {
        lookWhere();
        lookWhich();
        lookOrNot();
        lookHowMany();
        lookIsSo();
        lookBadAheadOfNo();
        lookedBits();
        lookedWhere();
        mayWhich();
        mayCubes();
        mayNoState();
        mayAnyValues();
        mayAtBoth();
        stateWhere();
        stateBad();
        stateNone();
        stateLowestFirst();
        stateMany();
        cubeBits();
        statesOfFirstValues();
        statesOneBehindTheOther();
        statesByEdges();
        statesByCubes();
        statesOnce();
        statesBehindTheTrap();
        foundBits();
        foundAll();
        foundWhere();
        pathBad();
        pathSafe();
        pathNotSoMany();
        pathAtPlace0();
        pathFar();
        pathFarOfOne();
        pathLong();
        due.end();
    }
}
