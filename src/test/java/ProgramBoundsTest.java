/** The bounds that the document names by promises 6 to 11, the program and what is so: one sentence each. */
public final class ProgramBoundsTest {
    private static final int BAD = Due.BAD, NO = Due.NO, NONE = Due.NONE;
    private static final int LOWEST = Due.LOWEST, HIGHEST = Due.HIGHEST;
    private static final Due due = new Due();
    /** x, y, z count up from 0 as the figures of a number, x the quickest; THE RUN ends when z is 7. */
    private static final String COUNTER = "p43;v00;v00;v00;c107;c117;c127;"
        + "e0000201;e0101100;e1010211;e1211110;e2090221;e0321000;";
    /** The TRAP is not REACHED, but may be; only EDGE 1 asks. */
    private static final String SMALL = "p32;v01;v12;c002;c201;c401;e0190201;e1220310;e1190000;";

    private static CubeChecker small() {
        CubeChecker x = Due.laid(SMALL);
        x.look(0, 1, 1);
        x.look(1, 2, 1);
        return x;
    }

    // ---- promise 6

    private static void edgeWhich() {
        due.by("6 edge: BAD (EDGES such as there are)");
        due.are("no EDGE", new int[] {Due.laid("p20;").edge(0, 0), Due.laid("p20;").edge(-1, 0)}, BAD, BAD);
        CubeChecker one = Due.laid("p32;e1290000;");
        due.are("one EDGE", new int[] {one.edge(-1, 0), one.edge(0, 0), one.edge(1, 0)}, BAD, 1, BAD);
        CubeChecker full = Due.laid(Due.ALL_FULL);
        due.are("14 EDGES", new int[] {full.edge(-1, 0), full.edge(0, 0), full.edge(13, 0), full.edge(14, 0),
            full.edge(15, 0), full.edge(16, 0), full.edge(LOWEST, 0), full.edge(HIGHEST, 0)},
            BAD, 0, 7, BAD, BAD, BAD, BAD, BAD);
        due.refused("edge(3, 0)", ProgramBoundsTest::small, x -> x.edge(3, 0), BAD);
    }

    private static void edgeWhat() {
        due.by("6 edge: A (what = 0), B (1), G (2), T (3), S (4), V (5), K (6). BAD");
        CubeChecker x = Due.laid("p65;v00;v00;v00;c000;c000;c000;c000;e4530512;");
        due.are("each", new int[] {x.edge(0, 0), x.edge(0, 1), x.edge(0, 2), x.edge(0, 3), x.edge(0, 4), x.edge(0, 5),
            x.edge(0, 6)}, 4, 5, 3, 0, 5, 1, 2);
        due.are("none of these", new int[] {x.edge(0, -1), x.edge(0, 7), x.edge(0, LOWEST), x.edge(0, HIGHEST),
            x.edge(1, 7), x.edge(-1, -1)}, BAD, BAD, BAD, BAD, BAD, BAD);
        due.refused("edge(0, 7)", ProgramBoundsTest::small, y -> y.edge(0, 7), BAD);
        due.refused("edge(0, -1)", ProgramBoundsTest::small, y -> y.edge(0, -1), BAD);
    }

    private static void edgeFiguresAsTold() {
        due.by("6 edge: the lowest and the highest that each can be, also where it does not matter");
        CubeChecker x = Due.laid("p87;v00;v00;v00;c000;c000;c000;c000;c000;c000;c000;c000;"
            + "e0000000;e7771099;e0090000;e7791500;e7791329;");
        int[][] told = {{0, 0, 0, 0, 0, 0, 0}, {7, 7, 7, 1, 0, 9, 9}, {0, 0, 9, 0, 0, 0, 0}, {7, 7, 9, 1, 5, 0, 0},
            {7, 7, 9, 1, 3, 2, 9}};
        for (int e = 0; e < told.length; e++) {
            for (int what = 0; what < 7; what++) due.is("edge(" + e + ", " + what + ")", x.edge(e, what), told[e][what]);
        }
    }

    private static void edgeAsItIsNow() {
        due.by("6 edge: T (3; as it is now)");
        CubeChecker x = Due.laid("p20;v00;c000;e0100000;e0101000;e0191000;");
        due.are("as told", new int[] {x.edge(0, 3), x.edge(1, 3), x.edge(2, 3)}, 0, 1, 1);
        x.turn(0);
        due.are("turned", new int[] {x.edge(0, 3), x.edge(1, 3), x.edge(2, 3)}, 1, 1, 1);
        x.turn(1);
        due.are("both", new int[] {x.edge(0, 3), x.edge(1, 3), x.edge(0, 2), x.edge(0, 4)}, 1, 0, 0, 0);
        x.undo();
        due.are("one undone", new int[] {x.edge(0, 3), x.edge(1, 3)}, 1, 1);
        x.lay();
        due.are("LAID", new int[] {x.edge(0, 3), x.edge(1, 3)}, 0, 1);
    }

    // ---- promise 7

    private static void turnWhich() {
        due.by("7 turn: BAD");
        CubeChecker x = Due.laid("p20;v00;c000;e0100000;");
        due.are("one EDGE", new int[] {x.turn(-1), x.turn(1), x.turn(LOWEST), x.turn(HIGHEST), x.turn(0)}, BAD, BAD, BAD,
            BAD, 1);
        CubeChecker full = Due.laid(Due.ALL_FULL);
        due.are("14 EDGES", new int[] {full.turn(13), full.turn(14), full.turn(2), full.count(7)}, 0, BAD, 1, 2);
        due.are("no EDGE", new int[] {Due.laid("p20;").turn(0), Due.laid("p20;").turn(-1)}, BAD, BAD);
        due.refused("turn(3)", ProgramBoundsTest::small, y -> y.turn(3), BAD);
        due.refused("turn(-1)", ProgramBoundsTest::small, y -> y.turn(-1), BAD);
    }

    private static void turnNothing() {
        due.by("7 turn: NO: it asks nothing");
        CubeChecker x = Due.laid("p20;v00;c000;e0190000;e0191000;e0101000;");
        due.are("turn", new int[] {x.turn(0), x.turn(1), x.edge(0, 3), x.edge(1, 3), x.count(7), x.turn(2)},
            NO, NO, 0, 1, 0, 0);
        due.refused("turn(0)", ProgramBoundsTest::small, y -> y.turn(0), NO);
        due.refused("turn(2)", ProgramBoundsTest::small, y -> y.turn(2), NO);
    }

    private static void turnAnswers() {
        due.by("7 turn: An EDGE is TURNED (it asks for the other T): T then");
        CubeChecker x = Due.laid("p21;v00;c100;e0100000;");
        due.are("as told", new int[] {x.gone(0, 0, 0, 0), x.gone(0, 1, 0, 0), x.real(1, 0), x.run(-1), x.path(-2)},
            NO, 64, NONE, NONE, 0);
        due.are("turned", new int[] {x.turn(0), x.gone(0, 0, 0, 0), x.gone(0, 1, 0, 0), x.real(1, 0), x.run(-1), x.path(-2)},
            1, 0, NO, 1, 1, 1);
        due.are("turned again", new int[] {x.turn(0), x.gone(0, 0, 0, 0), x.real(1, 0), x.run(-1), x.path(-2), x.count(7)},
            0, NO, NONE, NONE, 0, 2);
    }

    // ---- promise 8

    private static boolean isSo(int kind, int value, int other) {
        switch (kind) {
            case 0: case 2: return value < other;
            case 1: case 3: return value == other;
            default: return value + other <= 7;
        }
    }

    private static void soByFigure() {
        due.by("cKVW: 0 V is less than W; 1 V is W (W a figure 0 to 9)");
        for (int kind = 0; kind <= 1; kind++) {
            for (int w = 0; w <= 9; w++) {
                CubeChecker x = Due.laid("p20;v00;v00;v00;c" + kind + "0" + w + ";c" + kind + "1" + w + ";c" + kind + "2" + w + ";");
                for (int value = 0; value <= 7; value++) {
                    int want = isSo(kind, value, w) ? 1 : 0;
                    String call = "KIND " + kind + " of " + value + " and " + w;
                    due.are(call, new int[] {x.so(0, value, 0, 7), x.so(1, 7, value, 0), x.so(2, 0, 7, value)}, want, want, want);
                }
            }
        }
    }

    private static void soByVariable() {
        due.by("cKVW: 2 V is less than the VARIABLE W; 3 V is the VARIABLE W; 4 together they are less than 8");
        for (int kind = 2; kind <= 4; kind++) {
            CubeChecker x = Due.laid("p20;v00;v00;v00;c" + kind + "01;c" + kind + "21;c" + kind + "00;");
            for (int value = 0; value <= 7; value++) {
                for (int other = 0; other <= 7; other++) {
                    int want = isSo(kind, value, other) ? 1 : 0;
                    int turned = isSo(kind, other, value) ? 1 : 0;
                    int self = isSo(kind, value, value) ? 1 : 0;
                    String call = "KIND " + kind + " of " + value + " and " + other;
                    due.are(call, new int[] {x.so(0, value, other, 7 - value), x.so(1, other, value, other), x.so(2, value, other, 0)},
                        want, turned, self);
                }
            }
        }
    }

    private static void soWhich() {
        due.by("8 so: BAD (COMPARISONS such as there are)");
        due.are("none", new int[] {Due.laid("p20;v00;").so(0, 0, 0, 0), Due.laid("p20;v00;").so(-1, 0, 0, 0)}, BAD, BAD);
        CubeChecker one = Due.laid("p20;v00;c009;");
        due.are("one", new int[] {one.so(-1, 0, 0, 0), one.so(0, 0, 0, 0), one.so(1, 0, 0, 0), one.so(LOWEST, 0, 0, 0),
            one.so(HIGHEST, 0, 0, 0), one.so(32, 0, 0, 0), one.so(9, 0, 0, 0)}, BAD, 1, BAD, BAD, BAD, BAD, BAD);
        CubeChecker full = Due.laid(Due.ALL_FULL);
        due.are("8", new int[] {full.so(7, 0, 0, 1), full.so(8, 0, 0, 1)}, 1, BAD);
        due.refused("so(3, 0, 0, 0)", ProgramBoundsTest::small, x -> x.so(3, 0, 0, 0), BAD);
    }

    private static void soValues() {
        due.by("8 so: for values x, y, z of VARIABLES 0, 1, 2 (0 to 7 each). BAD");
        CubeChecker x = Due.laid("p20;v00;v00;v00;c007;c017;c027;");
        due.are("0 and 7", new int[] {x.so(0, 0, 7, 7), x.so(0, 7, 0, 0), x.so(1, 7, 0, 7), x.so(1, 0, 7, 0), x.so(2, 7, 7, 0),
            x.so(2, 0, 0, 7)}, 1, 0, 1, 0, 1, 0);
        for (int wrong : new int[] {-1, 8, 9, 64, LOWEST, HIGHEST}) {
            due.are("with " + wrong, new int[] {x.so(0, wrong, 0, 0), x.so(0, 0, wrong, 0), x.so(0, 0, 0, wrong),
                x.so(2, wrong, 0, 0), x.so(9, wrong, 0, 0)}, BAD, BAD, BAD, BAD, BAD);
        }
    }

    private static void soValuesOfNone() {
        due.by("8 so: those of VARIABLES that there are not do not matter, but are 0 to 7, too");
        CubeChecker one = Due.laid("p20;v00;c104;c400;");
        CubeChecker two = Due.laid("p20;v00;v00;c104;c401;");
        for (int any = 0; any <= 7; any++) {
            due.are("any is " + any, new int[] {one.so(0, 4, any, 7 - any), one.so(0, 3, any, any), one.so(1, 3, any, any),
                one.so(1, 4, any, any), two.so(0, 4, any, 7), two.so(1, 4, 3, any), two.so(1, 4, 4, any)},
                1, 0, 1, 0, 1, 1, 0);
        }
        for (int wrong : new int[] {-1, 8, LOWEST, HIGHEST}) {
            due.are("with " + wrong, new int[] {one.so(0, 4, wrong, 0), one.so(0, 4, 0, wrong), two.so(0, 4, 0, wrong)},
                BAD, BAD, BAD);
        }
    }

    // ---- promise 9

    private static int before(int v, int value) {
        return 511 - ((7 - value) << (6 - 3 * v));
    }

    /** From values that are all 7 but V is value: only V becomes another one. */
    private static void goneBy(CubeChecker x, int e, int v, int value, int becomes) {
        int from = before(v, value);
        int want = becomes < 0 || becomes > 7 ? NO : before(v, becomes);
        due.is("EDGE " + e + " from " + v + " = " + value, x.gone(e, from / 64, from / 8 % 8, from % 8), want);
    }

    private static void goneByFigure() {
        due.by("An EDGE can be GONE, if by what it does no value is below 0 or above 7; all others stay: S 1, 2, 3");
        for (int v = 0; v <= 2; v++) {
            for (int k = 0; k <= 9; k++) {
                String set = "e01901" + v + Math.min(k, 7) + ";";
                CubeChecker x = Due.laid("p20;v00;v00;v00;" + set + "e01902" + v + k + ";e01903" + v + k + ";");
                for (int value = 0; value <= 7; value++) {
                    goneBy(x, 0, v, value, Math.min(k, 7));
                    goneBy(x, 1, v, value, value + k);
                    goneBy(x, 2, v, value, value - k);
                }
            }
        }
    }

    private static void goneByVariable() {
        due.by("An EDGE can be GONE, if by what it does no value is below 0 or above 7; all others stay: S 0, 4, 5");
        CubeChecker x = Due.laid("p20;v00;v00;v00;e0190099;e0190402;e0190510;e0190511;e0190422;");
        for (int a = 0; a <= 7; a++) {
            for (int b = 0; b <= 7; b++) {
                String from = " from " + a + ", " + b;
                due.is("S 0" + from, x.gone(0, a, b, 7), 64 * a + 8 * b + 7);
                due.is("x as z" + from, x.gone(1, a, 3, b), 64 * b + 24 + b);
                due.is("y and x" + from, x.gone(2, a, b, 5), a + b > 7 ? NO : 64 * a + 8 * (a + b) + 5);
                due.is("y and y" + from, x.gone(3, b, a, 5), a > 3 ? NO : 64 * b + 16 * a + 5);
                due.is("z as z" + from, x.gone(4, b, a, a), 64 * b + 8 * a + a);
            }
        }
    }

    private static void goneAsks() {
        due.by("An EDGE can be GONE, if what it asks is as it should be; nothing is asked by 9, whatever T is");
        CubeChecker x = Due.laid("p20;v00;c004;e0100000;e0101000;e0190000;e0191000;e0101204;e0100204;");
        due.are("x is 3", new int[] {x.gone(0, 3, 0, 0), x.gone(1, 3, 0, 0), x.gone(2, 3, 0, 0), x.gone(3, 3, 0, 0),
            x.gone(4, 3, 0, 0), x.gone(5, 3, 0, 0)}, NO, 192, 192, 192, 448, NO);
        due.are("x is 4", new int[] {x.gone(0, 4, 0, 0), x.gone(1, 4, 0, 0), x.gone(2, 4, 0, 0), x.gone(3, 4, 0, 0),
            x.gone(4, 4, 0, 0), x.gone(5, 4, 0, 0)}, 256, NO, 256, 256, NO, NO);
    }

    private static void goneWhich() {
        due.by("9 gone: BAD (EDGES such as there are, values 0 to 7)");
        CubeChecker x = Due.laid("p20;v00;v00;v00;e0190000;");
        due.are("EDGES", new int[] {x.gone(-1, 0, 0, 0), x.gone(0, 0, 0, 0), x.gone(1, 0, 0, 0), x.gone(LOWEST, 0, 0, 0),
            x.gone(HIGHEST, 0, 0, 0), x.gone(14, 0, 0, 0)}, BAD, 0, BAD, BAD, BAD, BAD);
        due.are("values", new int[] {x.gone(0, 7, 7, 7), x.gone(0, 7, 0, 0), x.gone(0, 0, 7, 0), x.gone(0, 0, 0, 7)},
            511, 448, 56, 7);
        for (int wrong : new int[] {-1, 8, LOWEST, HIGHEST}) {
            due.are("with " + wrong, new int[] {x.gone(0, wrong, 0, 0), x.gone(0, 0, wrong, 0), x.gone(0, 0, 0, wrong)},
                BAD, BAD, BAD);
        }
        due.is("no EDGE", Due.laid("p20;").gone(0, 0, 0, 0), BAD);
        CubeChecker full = Due.laid(Due.ALL_FULL);
        due.are("14 EDGES", new int[] {full.gone(13, 0, 0, 1), full.gone(14, 0, 0, 1)}, 449, BAD);
        due.refused("gone(3, 0, 0, 0)", ProgramBoundsTest::small, y -> y.gone(3, 0, 0, 0), BAD);
        due.refused("gone(0, 0, 0, 8)", ProgramBoundsTest::small, y -> y.gone(0, 0, 0, 8), BAD);
    }

    private static void goneOfNone() {
        due.by("9 gone: of VARIABLES that there are not 0 is told; they are 0 to 7, too");
        CubeChecker none = Due.laid("p20;e0190000;");
        CubeChecker one = Due.laid("p20;v00;e0190201;");
        CubeChecker two = Due.laid("p20;v00;v00;e0190510;");
        for (int any = 0; any <= 7; any++) {
            due.are("any is " + any, new int[] {none.gone(0, any, any, any), one.gone(0, 2, any, any), two.gone(0, 1, 2, any)},
                0, 192, 88);
        }
        for (int wrong : new int[] {-1, 8}) {
            due.are("with " + wrong, new int[] {none.gone(0, wrong, 0, 0), none.gone(0, 0, wrong, 0), none.gone(0, 0, 0, wrong),
                one.gone(0, 2, wrong, 0), one.gone(0, 2, 0, wrong), two.gone(0, 1, 2, wrong)}, BAD, BAD, BAD, BAD, BAD, BAD);
        }
    }

    private static void goneNot() {
        due.by("9 gone: NO: it can not be GONE with these; BAD is ahead of it");
        CubeChecker x = Due.laid("p20;v00;c109;e0101000;e0190201;e0190301;");
        due.are("NO", new int[] {x.gone(0, 0, 0, 0), x.gone(1, 7, 0, 0), x.gone(2, 0, 0, 0), x.gone(1, 6, 0, 0), x.gone(2, 1, 0, 0)},
            NO, NO, NO, 448, 0);
        due.are("BAD", new int[] {x.gone(0, 8, 0, 0), x.gone(0, 0, 8, 0), x.gone(0, 0, 0, -1), x.gone(1, 7, 0, 8), x.gone(3, 7, 0, 0)},
            BAD, BAD, BAD, BAD, BAD);
        due.refused("gone(1, 7, 0, 0)", ProgramBoundsTest::small, y -> y.gone(1, 7, 0, 0), NO);
    }

    // ---- promise 10

    private static void realWhich() {
        due.by("10 real: BAD (PLACES such as there are; what 0, 1, 2)");
        CubeChecker two = Due.laid("p20;");
        CubeChecker eight = Due.laid("p80;");
        for (int what = 0; what <= 2; what++) {
            int outside = what == 0 ? NONE : 0;
            due.are("what " + what, new int[] {two.real(-1, what), two.real(1, what), two.real(2, what), two.real(LOWEST, what),
                two.real(HIGHEST, what), eight.real(7, what), eight.real(8, what)}, BAD, outside, BAD, BAD, BAD, outside, BAD);
        }
        due.are("no such what", new int[] {two.real(0, -1), two.real(0, 3), two.real(0, LOWEST), two.real(0, HIGHEST)},
            BAD, BAD, BAD, BAD);
        due.refused("real(3, 1)", ProgramBoundsTest::small, x -> x.real(3, 1), BAD);
        due.refused("real(0, 3)", ProgramBoundsTest::small, x -> x.real(0, 3), BAD);
        due.refused("real(-1, 0)", ProgramBoundsTest::small, x -> x.real(-1, 0), BAD);
    }

    private static void realReached() {
        due.by("10 real: REACHED by the fewest EDGES of a RUN that ends there (0: PLACE 0)");
        CubeChecker x = Due.laid("p43;v00;c102;e0090201;e0190000;e1090000;e1290000;e0201000;");
        due.are("by a circle back, and a longer way with lower EDGES", new int[] {x.real(0, 0), x.real(1, 0), x.real(2, 0), x.real(3, 0)},
            0, 1, 2, NONE);
        due.is("the TRAP is PLACE 0", Due.laid("p20;e0190000;e1090000;").real(0, 0), 0);
        due.is("by 512 EDGES", Due.laid(COUNTER).real(3, 0), 512);
        CubeChecker chain = Due.laid("p87;e6790000;e5690000;e4590000;e3490000;e2390000;e1290000;e0190000;");
        for (int p = 0; p < 8; p++) due.is("real(" + p + ", 0)", chain.real(p, 0), p);
    }

    private static void realNotReached() {
        due.by("10 real: NONE: it is not (REACHED); BAD is ahead of it");
        CubeChecker x = Due.laid("p32;v00;c101;e0101000;e1290000;e2190000;");
        due.are("no RUN", new int[] {x.real(0, 0), x.real(1, 0), x.real(2, 0)}, 0, NONE, NONE);
        due.are("BAD", new int[] {x.real(1, 3), x.real(1, -1), x.real(3, 0)}, BAD, BAD, BAD);
        due.refused("real(2, 0)", ProgramBoundsTest::small, y -> y.real(2, 0), NONE);
    }

    private static void realValues() {
        due.by("10 real: how many REAL VALUES (those with which some RUN ends there): from none to all");
        CubeChecker none = Due.laid("p21;v07;v07;v07;");
        due.are("none", new int[] {none.real(0, 1), none.real(1, 1)}, 512, 0);
        CubeChecker all = Due.laid("p87;v07;v07;v07;e0190000;e1290000;e2390000;e3490000;e4590000;e5690000;e6790000;");
        for (int p = 0; p < 8; p++) due.is("all at " + p, all.real(p, 1), 512);
        CubeChecker grows = Due.laid("p21;v00;v00;v00;e0090201;e0090211;e0090221;e0190000;");
        due.are("from one to all", new int[] {grows.real(0, 1), grows.real(1, 1)}, 512, 512);
        CubeChecker once = Due.laid("p21;v07;e0190103;e0190103;");
        due.are("the same ones count once", new int[] {once.real(0, 1), once.real(1, 1)}, 8, 1);
        CubeChecker counted = Due.laid(COUNTER);
        due.are("of the counter", new int[] {counted.real(0, 1), counted.real(1, 1), counted.real(2, 1), counted.real(3, 1)},
            512, 64, 8, 64);
    }

    private static void realHolds() {
        due.by("10 real: HOLDS: COMPARISONS (bits) that are so for all REAL VALUES of it (all, if there are none)");
        CubeChecker x = Due.laid("p32;v02;c003;c002;c009;c000;c100;c101;c102;c400;e0100000;e0131000;e0191101;");
        due.are("at first, one value, none", new int[] {x.real(0, 2), x.real(1, 2), x.real(2, 2)},
            1 + 4 + 128, 1 + 2 + 4 + 32 + 128, 255);
        due.are("without COMPARISONS", new int[] {Due.laid("p20;").real(0, 2), Due.laid("p20;").real(1, 2)}, 0, 0);
        due.is("one COMPARISON", Due.laid("p20;v00;c000;").real(1, 2), 1);
        due.is("7 COMPARISONS", Due.laid("p20;v00;c000;c000;c000;c000;c000;c000;c000;").real(1, 2), 127);
    }

    // ---- promise 11

    private static void runAll() {
        due.by("11 run: how many EDGES (i = -1), the i-th (0 the first)");
        CubeChecker x = Due.laid("p43;v00;e0190201;e1290201;e2390201;");
        due.are("three", new int[] {x.run(-1), x.run(0), x.run(1), x.run(2)}, 3, 0, 1, 2);
        CubeChecker counter = Due.laid(COUNTER);
        due.are("512", new int[] {counter.run(-1), counter.run(0), counter.run(6), counter.run(7), counter.run(8), counter.run(9),
            counter.run(63), counter.run(70), counter.run(71), counter.run(72), counter.run(73), counter.run(510), counter.run(511)},
            512, 0, 0, 1, 2, 0, 0, 1, 3, 4, 0, 4, 5);
        CubeChecker last = Due.laid("p21;" + "e1090000;".repeat(13) + "e0190000;");
        due.are("the highest EDGE", new int[] {last.run(-1), last.run(0), last.run(1)}, 1, 13, NONE);
    }

    private static void runBad() {
        due.by("11 run: BAD (i below -1); it is ahead of NONE");
        CubeChecker x = Due.laid("p21;e0190000;");
        due.are("REACHED", new int[] {x.run(-2), x.run(-3), x.run(LOWEST), x.run(-1)}, BAD, BAD, BAD, 1);
        CubeChecker not = Due.laid("p21;");
        due.are("not REACHED", new int[] {not.run(-2), not.run(-4), not.run(LOWEST), not.run(-1)}, BAD, BAD, BAD, NONE);
        due.refused("run(-2)", ProgramBoundsTest::small, y -> y.run(-2), BAD);
    }

    private static void runNone() {
        due.by("11 run: NONE: the TRAP is not REACHED");
        CubeChecker x = Due.laid("p32;v00;c101;e0190000;e1201000;");
        due.are("not REACHED", new int[] {x.run(-1), x.run(0), x.run(1), x.run(HIGHEST)}, NONE, NONE, NONE, NONE);
        due.refused("run(-1)", ProgramBoundsTest::small, y -> y.run(-1), NONE);
        due.refused("run(0)", ProgramBoundsTest::small, y -> y.run(0), NONE);
    }

    private static void runNotSoMany() {
        due.by("11 run: NONE: there are not so many");
        CubeChecker x = Due.laid("p32;v00;e0190000;e1290000;");
        due.are("two", new int[] {x.run(1), x.run(2), x.run(3), x.run(HIGHEST)}, 1, NONE, NONE, NONE);
        CubeChecker counter = Due.laid(COUNTER);
        due.are("512", new int[] {counter.run(511), counter.run(512), counter.run(513)}, 5, NONE, NONE);
        CubeChecker here = Due.laid("p20;e0190000;e1090000;");
        due.are("none, the TRAP is PLACE 0", new int[] {here.run(-1), here.run(0), here.run(1), here.run(-2)}, 0, NONE, NONE, BAD);
    }

    private static void runFewest() {
        due.by("THE RUN is that of fewest EDGES from PLACE 0 to the TRAP, also if lower EDGES lead there by more");
        CubeChecker x = Due.laid("p43;v00;e0190000;e1390000;e0390000;");
        due.are("one, not two", new int[] {x.run(-1), x.run(0), x.run(1)}, 1, 2, NONE);
        CubeChecker y = Due.laid("p43;v03;c103;e0190000;e1290000;e2390000;e0101000;e1301000;");
        due.are("by the first values that need fewest", new int[] {y.run(-1), y.run(0), y.run(1)}, 2, 0, 4);
    }

    private static void runFirst() {
        due.by("THE RUN: of several the first (by the first EDGE, the lowest ahead, then the second, ..)");
        CubeChecker x = Due.laid("p54;v00;e2490000;e1490000;e0290000;e0190000;e1490000;");
        due.are("by the first EDGE", new int[] {x.run(-1), x.run(0), x.run(1)}, 2, 2, 0);
        CubeChecker second = Due.laid("p43;v00;e0190000;e1390000;e1390000;e1290000;");
        due.are("by the second", new int[] {second.run(-1), second.run(0), second.run(1)}, 2, 0, 1);
        CubeChecker third = Due.laid("p54;v01;c101;e0190000;e1201000;e1200000;e2400000;e2401000;e2490000;");
        due.are("not by the values", new int[] {third.run(-1), third.run(0), third.run(1), third.run(2)}, 3, 0, 1, 4);
        CubeChecker meet = Due.laid("p43;v01;c100;e0101101;e0100000;e1201000;e1290000;e2390000;");
        due.are("two ways to the same values", new int[] {meet.run(-1), meet.run(0), meet.run(1), meet.run(2)}, 3, 0, 3, 4);
    }

    public static void main(String[] args) {
        edgeWhich();
        edgeWhat();
        edgeFiguresAsTold();
        edgeAsItIsNow();
        turnWhich();
        turnNothing();
        turnAnswers();
        soByFigure();
        soByVariable();
        soWhich();
        soValues();
        soValuesOfNone();
        goneByFigure();
        goneByVariable();
        goneAsks();
        goneWhich();
        goneOfNone();
        goneNot();
        realWhich();
        realReached();
        realNotReached();
        realValues();
        realHolds();
        runAll();
        runBad();
        runNone();
        runNotSoMany();
        runFewest();
        runFirst();
        due.end();
    }
}
