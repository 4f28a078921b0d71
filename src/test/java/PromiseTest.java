/** Each promise of the document by itself: ordinary inputs, the edges that it names, wrong inputs. */
public final class PromiseTest {
    private static final int BAD = -1, NO = -2, FULL = -3, NONE = -4;
    private static int wrong = 0;
    private static int promise = 0;

    private static void due(String what, int got, int want) {
        if (got != want) {
            wrong++;
            System.out.println("promise " + promise + ": " + what + " answered " + got + ", due is " + want);
        }
    }

    private static void tell(CubeChecker x, String text) {
        x.wipe();
        for (char letter : text.toCharArray()) x.write(letter);
    }

    private static CubeChecker laid(String text) {
        CubeChecker x = new CubeChecker();
        tell(x, text);
        due("lay() of " + text, x.lay(), text.charAt(1) - '0');
        return x;
    }

    private static void dueRow(String what, int[] got, int... want) {
        for (int i = 0; i < want.length; i++) due(what + " [" + i + "]", got[i], want[i]);
    }

    /** Safe, but it may look otherwise: two edges to the trap that need x, y other than 0. */
    private static final String TWO_WAYS = "p21;v00;v00;c100;c110;e0100000;e0110000;";
    /** Only two comparisons together tell that x is y, y below 3 and x not below 3 can not be. */
    private static final String NEEDS_TWO = "p43;v07;v07;c301;c013;c003;e0101000;e1211000;e2320000;";
    /** Looks as if it could be gone, but x is 0; and there is nothing to look at. */
    private static final String NO_SET = "p21;v00;e0190301;";

    private static void newObject() {
        promise = 1;
        CubeChecker x = new CubeChecker();
        int[] counts = {4, 3, 2, 5, 4, 0, 4, 0, 0};
        for (int what = 0; what < 9; what++) due("count(" + what + ")", x.count(what), counts[what]);
        int[][] edges = {{0, 1, 9, 0, 4, 1, 0}, {1, 2, 0, 1, 2, 0, 1}, {2, 1, 9, 0, 4, 1, 0}, {1, 3, 2, 0, 0, 0, 0}};
        for (int e = 0; e < 4; e++) {
            for (int what = 0; what < 7; what++) due("edge " + e + " " + what, x.edge(e, what), edges[e][what]);
        }
        for (int p = 0; p < 4; p++) due("looked", x.looked(p), 0);
        due("fault()", x.fault(), NONE);
        due("undo()", x.undo(), NO);
        due("so c1", x.so(1, 0, 4, 0), 1);
        due("so c4", x.so(4, 7, 0, 0), 1);
        due("first values", x.real(0, 1), 3);
        CubeChecker other = new CubeChecker();
        x.write('p');
        x.look(0, 0, 1);
        due("another object's text", other.count(8), 0);
        due("another object's looks", other.looked(0), 0);
    }

    private static void write() {
        promise = 2;
        CubeChecker x = new CubeChecker();
        int[] bad = {31, 127, 0, -1, 128, 256 + 'p', 65536 + 'p', Integer.MIN_VALUE, Integer.MAX_VALUE};
        for (int letter : bad) due("write " + letter, x.write(letter), BAD);
        due("write 32", x.write(32), 1);
        due("write 126", x.write(126), 2);
        for (int i = 3; i <= 200; i++) due("write", x.write('p'), i);
        due("write, full", x.write('p'), FULL);
        due("write BAD, full", x.write(127), BAD);
        due("letters", x.count(8), 200);
        due("wipe()", x.wipe(), 200);
        due("write again", x.write(';'), 1);
    }

    private static void wipe() {
        promise = 3;
        CubeChecker x = new CubeChecker();
        due("wipe()", x.wipe(), 0);
        tell(x, "p20;x");
        due("wipe()", x.wipe(), 5);
        due("wipe()", x.wipe(), 0);
        due("letters", x.count(8), 0);
        due("fault()", x.fault(), NONE);
        due("places stay", x.count(0), 4);
    }

    private static void dueFault(String text, int want) {
        CubeChecker x = new CubeChecker();
        tell(x, text);
        due("fault() of " + text, x.fault(), want);
        due("lay() of " + text, x.lay(), want == NONE && !text.isEmpty() ? text.charAt(1) - '0' : NO);
    }

    private static void fault() {
        promise = 4;
        String[] good = {"", "p20;", "p21;", "p87;", "p20;v00;", "p20;v77;v07;v34;", "p20;v00;c000;", "p20;v00;c109;",
            "p20;v00;c200;c300;c400;", "p20;v00;v00;c201;c310;c401;", "p20;e0190099;", "p20;e1091000;",
            "p20;v00;e0190107;", "p20;v00;e0190209;", "p20;v00;e0190309;", "p20;v00;e0190400;", "p20;v00;e0190500;",
            "p20;e0190000;v00;c000;e0100000;v11;"};
        for (String text : good) dueFault(text, NONE);
        String[] badFirst = {"p", "p2", "p20", "p2;", "p20p", "P20;", ";", " p20;", "p10;", "p00;", "p90;", "p22;", "p29;",
            "p88;", "p89;", "v00;", "c000;", "e0190000;", "px0;", "p2:;", "p2/;", "x", "p200;"};
        for (String text : badFirst) dueFault(text, 0);
        String[] badThen = {"p20;", " ", ";", "v", "v0", "v00", "v0;", "v000;", "v10;", "v08;", "v88;", "c000;", "c0",
            "e0290000;", "e2090000;", "e0180000;", "e0100000;", "e0192000;", "e0190600;", "e0190900;", "e0190100;",
            "e0190200;", "e0190400;", "e019000;", "e01900000;", "e0190000", "p21;", "x00;"};
        for (String item : badThen) dueFault("p20;" + item, 4);
        String[] badLast = {"c500;", "c900;", "c010;", "c201;", "c301;", "c401;", "c00;", "c0000;", "e0100000;",
            "e0190108;", "e0190109;", "e0190110;", "e0190210;", "e0190310;", "e0190401;", "e0190410;", "e0190501;",
            "e0190510;", "v-1;"};
        for (String item : badLast) dueFault("p20;v00;" + item + "x", 8);
        dueFault("p20;v00;v00;v00;v00;", 16);
        String eight = "p20;v00;" + "c000;".repeat(8);
        dueFault(eight, NONE);
        dueFault(eight + "c000;", 48);
        dueFault(eight + "e0180000;", 48);
        dueFault(eight + "e0170000;", NONE);
        String fourteen = "p20;" + "e0190000;".repeat(14);
        dueFault(fourteen, NONE);
        dueFault(fourteen + "e0190000;", 130);
        dueFault(fourteen + "v00;" + "c000;".repeat(8) + "v00;v00;e0190000;", 182);
        dueFault("p20;v00;e0101000;c000;", 8);
        dueFault("p20;v00;c000;x0;", 13);
        dueFault("p20;v00;c000;00000000;", 13);
    }

    private static void lay() {
        promise = 5;
        CubeChecker x = new CubeChecker();
        due("lay(), empty", x.lay(), NO);
        x.look(1, 2, 1);
        x.turn(1);
        tell(x, "p32;v12;v00");
        due("lay(), faulty", x.lay(), NO);
        due("places", x.count(0), 4);
        due("looked", x.looked(1), 4);
        due("changes", x.count(7), 2);
        due("T", x.edge(1, 3), 0);
        x.write(';');
        due("lay()", x.lay(), 3);
        dueRow("counts", new int[] {x.count(0), x.count(1), x.count(2), x.count(3), x.count(4), x.count(5), x.count(7),
            x.count(8)}, 3, 2, 2, 0, 0, 0, 0, 12);
        due("undo()", x.undo(), NO);
        due("looked", x.looked(1), 0);
        due("first values", x.real(0, 1), 2);
        due("states", x.count(6), 1);
        due("not reached", x.real(2, 0), NONE);
        tell(x, NEEDS_TWO);
        due("text alone changes nothing", x.count(0), 3);
        due("lay()", x.lay(), 4);
        x.turn(0);
        due("real behind turn", x.real(1, 1), 56);
        x.check(1);
        due("lay() once more", x.lay(), 4);
        due("T as told", x.edge(0, 3), 1);
        due("looked", x.count(5), 0);
        due("real as told", x.real(1, 1), 8);
        due("path as told", x.path(-2), 2);
        tell(x, "p21;v00;c100;");
        x.lay();
        x.look(0, 0, 1);
        dueRow("first values of one", new int[] {x.state(0, -1), x.state(0, 0)}, 1, 1);
        tell(x, "p21;v11;c100;");
        x.lay();
        x.look(0, 0, 1);
        dueRow("first values of the next", new int[] {x.state(0, -1), x.state(0, 0)}, 1, 0);
    }

    private static void edge() {
        promise = 6;
        CubeChecker x = laid("p54;v00;v00;c000;e2300311;e3491089;");
        int[][] edges = {{2, 3, 0, 0, 3, 1, 1}, {3, 4, 9, 1, 0, 8, 9}};
        for (int e = 0; e < 2; e++) {
            for (int what = 0; what < 7; what++) due("edge " + e + " " + what, x.edge(e, what), edges[e][what]);
            due("what -1", x.edge(e, -1), BAD);
            due("what 7", x.edge(e, 7), BAD);
        }
        due("edge 2", x.edge(2, 0), BAD);
        due("edge -1", x.edge(-1, 0), BAD);
        due("edge far", x.edge(Integer.MAX_VALUE, 0), BAD);
        x.turn(0);
        due("T now", x.edge(0, 3), 1);
    }

    private static void turn() {
        promise = 7;
        CubeChecker x = new CubeChecker();
        due("turn(-1)", x.turn(-1), BAD);
        due("turn(4)", x.turn(4), BAD);
        due("turn(0)", x.turn(0), NO);
        due("no change", x.count(7), 0);
        due("turn(3)", x.turn(3), 1);
        due("trap reached", x.real(3, 0), 2);
        due("gone", x.gone(3, 4, 4, 0), 288);
        due("may be", x.may(3, 0, 0), 1);
        due("turn(3)", x.turn(3), 0);
        due("trap not reached", x.real(3, 0), NONE);
        due("gone", x.gone(3, 4, 4, 0), NO);
        due("two changes", x.count(7), 2);
        x.look(1, 2, 1);
        due("may by cube 0", x.may(3, 0, 0), 1);
        x.turn(3);
        due("may by cube 0", x.may(3, 0, 0), 0);
        due("may by cube 4", x.may(3, 4, 0), 1);
    }

    private static void so() {
        promise = 8;
        CubeChecker x = laid("p20;v00;v00;v00;c003;c127;c201;c321;c412;c009;c119;c400;");
        dueRow("x < 3", new int[] {x.so(0, 2, 0, 0), x.so(0, 3, 0, 0)}, 1, 0);
        dueRow("z is 7", new int[] {x.so(1, 0, 0, 7), x.so(1, 7, 7, 6)}, 1, 0);
        dueRow("x < y", new int[] {x.so(2, 2, 3, 0), x.so(2, 3, 3, 7), x.so(2, 4, 3, 7)}, 1, 0, 0);
        dueRow("z is y", new int[] {x.so(3, 0, 5, 5), x.so(3, 5, 5, 4)}, 1, 0);
        dueRow("y + z < 8", new int[] {x.so(4, 7, 3, 4), x.so(4, 0, 4, 4), x.so(4, 0, 7, 7)}, 1, 0, 0);
        dueRow("figures above 7", new int[] {x.so(5, 7, 0, 0), x.so(6, 0, 7, 0)}, 1, 0);
        dueRow("x + x < 8", new int[] {x.so(7, 3, 7, 7), x.so(7, 4, 0, 0)}, 1, 0);
        dueRow("wrong", new int[] {x.so(-1, 0, 0, 0), x.so(8, 0, 0, 0), x.so(0, -1, 0, 0), x.so(0, 8, 0, 0),
            x.so(0, 0, -1, 0), x.so(0, 0, 8, 0), x.so(0, 0, 0, -1), x.so(0, 0, 0, 8)}, BAD, BAD, BAD, BAD, BAD, BAD,
            BAD, BAD);
        CubeChecker one = laid("p20;v00;c101;");
        dueRow("one variable", new int[] {one.so(0, 1, 7, 7), one.so(0, 0, 1, 1), one.so(0, 1, 8, 0), one.so(0, 1, 0, -1),
            one.so(1, 0, 0, 0)}, 1, 0, BAD, BAD, BAD);
        due("no comparison", laid("p20;v00;").so(0, 0, 0, 0), BAD);
    }

    private static void gone() {
        promise = 9;
        CubeChecker x = laid("p20;v00;v00;v00;c003;e0190077;e0190116;e0190222;e0190313;e0190402;e0190512;e0101000;"
                + "e0100000;e0190522;e0190209;");
        dueRow("nothing", new int[] {x.gone(0, 1, 2, 3)}, 64 + 16 + 3);
        dueRow("y becomes 6", new int[] {x.gone(1, 1, 2, 3)}, 64 + 48 + 3);
        dueRow("z 2 more", new int[] {x.gone(2, 1, 2, 5), x.gone(2, 1, 2, 6)}, 64 + 16 + 7, NO);
        dueRow("y 3 less", new int[] {x.gone(3, 1, 3, 3), x.gone(3, 1, 2, 3)}, 64 + 3, NO);
        dueRow("x as z", new int[] {x.gone(4, 1, 2, 3)}, 192 + 16 + 3);
        dueRow("y by z more", new int[] {x.gone(5, 1, 2, 5), x.gone(5, 1, 2, 6)}, 64 + 56 + 5, NO);
        dueRow("asked so", new int[] {x.gone(6, 2, 1, 1), x.gone(6, 3, 1, 1)}, 128 + 9, NO);
        dueRow("asked not", new int[] {x.gone(7, 2, 1, 1), x.gone(7, 3, 1, 1)}, NO, 192 + 9);
        dueRow("z doubled", new int[] {x.gone(8, 7, 7, 3), x.gone(8, 7, 7, 4)}, 448 + 56 + 6, NO);
        dueRow("9 more", new int[] {x.gone(9, 0, 0, 0)}, NO);
        dueRow("wrong", new int[] {x.gone(-1, 0, 0, 0), x.gone(10, 0, 0, 0), x.gone(0, 8, 0, 0), x.gone(0, -1, 0, 0),
            x.gone(0, 0, 8, 0), x.gone(0, 0, -1, 0), x.gone(0, 0, 0, 8), x.gone(0, 0, 0, -1), x.gone(9, 0, 0, 8)},
            BAD, BAD, BAD, BAD, BAD, BAD, BAD, BAD, BAD);
        CubeChecker two = laid("p20;v00;v00;e0190211;");
        dueRow("two variables", new int[] {two.gone(0, 1, 2, 7), two.gone(0, 1, 7, 0), two.gone(0, 1, 2, 8)}, 64 + 24, NO,
            BAD);
        due("one variable", laid("p20;v00;e0190201;").gone(0, 1, 7, 7), 128);
        due("no variable", laid("p20;e0190000;").gone(0, 7, 7, 7), 0);
    }

    private static void real() {
        promise = 10;
        CubeChecker x = laid("p43;v01;v03;c002;c013;c301;e0190201;e1190201;e1090000;e1210000;e2201000;");
        dueRow("place 0", new int[] {x.real(0, 0), x.real(0, 1), x.real(0, 2)}, 0, 32, 0);
        dueRow("place 1", new int[] {x.real(1, 0), x.real(1, 1), x.real(1, 2)}, 1, 28, 0);
        dueRow("place 2", new int[] {x.real(2, 0), x.real(2, 1), x.real(2, 2)}, 2, 7, 0);
        dueRow("place 3", new int[] {x.real(3, 0), x.real(3, 1), x.real(3, 2)}, NONE, 0, 7);
        dueRow("wrong", new int[] {x.real(-1, 0), x.real(4, 0), x.real(0, -1), x.real(0, 3), x.real(9, 9)}, BAD, BAD, BAD,
            BAD, BAD);
        CubeChecker one = laid("p32;v13;c004;c101;c001;e0100000;e0101000;");
        dueRow("holds", new int[] {one.real(0, 2), one.real(1, 2), one.real(2, 2)}, 1, 1, 7);
        due("values of one", one.real(1, 1), 3);
        CubeChecker none = laid("p21;e0190000;");
        dueRow("no variable", new int[] {none.real(1, 0), none.real(1, 1), none.real(1, 2)}, 1, 1, 0);
        CubeChecker many = laid("p20;v07;v07;v07;e0190000;");
        dueRow("all values", new int[] {many.real(0, 1), many.real(1, 1)}, 512, 512);
    }

    private static void run() {
        promise = 11;
        CubeChecker x = laid("p32;v01;c101;e0101000;e0100000;e1290000;");
        dueRow("first by edges, not by values", new int[] {x.run(-1), x.run(0), x.run(1), x.run(2), x.run(-2)}, 2, 0, 2,
            NONE, BAD);
        x = laid("p32;v00;c105;e0090201;e0101000;e1290000;e0290203;");
        dueRow("fewest", new int[] {x.run(-1), x.run(0), x.run(1)}, 1, 3, NONE);
        x = laid("p32;v00;c105;e0090201;e0101000;e1290000;");
        dueRow("by a circle", new int[] {x.run(-1), x.run(0), x.run(4), x.run(5), x.run(6), x.run(7)}, 7, 0, 0, 1, 2, NONE);
        x = laid("p20;v00;e0190000;");
        dueRow("trap is place 0", new int[] {x.run(-1), x.run(0), x.run(-2)}, 0, NONE, BAD);
        x = laid(NO_SET);
        dueRow("not reached", new int[] {x.run(-1), x.run(0), x.run(-2), x.run(Integer.MAX_VALUE)}, NONE, NONE, BAD, NONE);
        x = laid("p43;v00;e0290000;e0190000;e1390000;e2390000;e2390000;");
        dueRow("lowest first", new int[] {x.run(-1), x.run(0), x.run(1)}, 2, 0, 3);
    }

    private static void look() {
        promise = 12;
        CubeChecker x = new CubeChecker();
        due("not yet", x.look(1, 2, 0), NO);
        due("look", x.look(1, 2, 1), 1);
        due("look", x.look(1, 4, 1), 2);
        due("elsewhere", x.look(2, 4, 1), 1);
        due("already", x.look(1, 2, 1), NO);
        due("no more", x.look(1, 2, 0), 1);
        due("changes", x.count(7), 4);
        dueRow("wrong", new int[] {x.look(-1, 0, 1), x.look(4, 0, 1), x.look(0, -1, 1), x.look(0, 5, 1), x.look(0, 0, 2),
            x.look(0, 0, -1), x.look(1, 4, 3)}, BAD, BAD, BAD, BAD, BAD, BAD, BAD);
        due("changes", x.count(7), 4);
    }

    private static void looked() {
        promise = 13;
        CubeChecker x = new CubeChecker();
        x.look(3, 4, 1);
        x.look(3, 0, 1);
        x.look(0, 1, 1);
        dueRow("looked", new int[] {x.looked(0), x.looked(1), x.looked(2), x.looked(3), x.looked(4), x.looked(-1)}, 2, 0, 0,
            17, BAD, BAD);
        x.look(3, 4, 0);
        due("no more", x.looked(3), 1);
    }

    private static void may() {
        promise = 14;
        CubeChecker x = laid("p32;v00;c003;c105;e0190202;e0101000;e2290000;");
        due("nothing looked at", x.may(0, 0, 0), 1);
        x.look(0, 0, 1);
        x.look(1, 0, 1);
        x.look(1, 1, 1);
        dueRow("x below 3 then 2 more", new int[] {x.may(0, 1, 0), x.may(0, 1, 1), x.may(0, 1, 2), x.may(0, 1, 3)}, 1, 1, 0, 0);
        dueRow("x not below 3", new int[] {x.may(0, 0, 0), x.may(0, 0, 1), x.may(0, 0, 2)}, 1, 0, 1);
        dueRow("asked", new int[] {x.may(1, 1, 1), x.may(1, 0, 0), x.may(1, 0, 1), x.may(1, 1, 0)}, 1, 0, 0, 0);
        dueRow("no such state", new int[] {x.may(0, 2, 0), x.may(0, 255, 0), x.may(0, 0, 255), x.may(0, 3, 3)}, 0, 0, 0, 0);
        due("of a place that no state comes to", x.may(2, 0, 0), 1);
        CubeChecker zero = laid("p21;v00;v00;c100;c110;e0190000;");
        for (int g = 0; g < 2; g++) zero.look(0, g, 1);
        dueRow("all values count", new int[] {zero.may(0, 0, 0), zero.may(0, 1, 0), zero.may(0, 2, 0), zero.may(0, 3, 0)},
            1, 1, 1, 1);
        dueRow("wrong", new int[] {x.may(3, 0, 0), x.may(-1, 0, 0), x.may(0, -1, 0), x.may(0, 256, 0), x.may(0, 0, -1),
            x.may(0, 0, 256)}, BAD, BAD, BAD, BAD, BAD, BAD);
    }

    private static void state() {
        promise = 15;
        CubeChecker x = laid("p32;v24;c003;c105;c104;e0190201;e1190203;");
        x.look(0, 2, 1);
        x.look(0, 0, 1);
        x.look(1, 1, 1);
        dueRow("place 0", new int[] {x.state(0, -1), x.state(0, 0), x.state(0, 1), x.state(0, 2), x.state(0, 3)}, 3, 0, 1, 4,
            NONE);
        dueRow("place 1", new int[] {x.state(1, -1), x.state(1, 0), x.state(1, 1), x.state(1, 2)}, 2, 0, 2, NONE);
        dueRow("place 2", new int[] {x.state(2, -1), x.state(2, 0)}, 0, NONE);
        dueRow("wrong", new int[] {x.state(3, -1), x.state(-1, 0), x.state(0, -2), x.state(9, -9)}, BAD, BAD, BAD, BAD);
        due("far", x.state(0, Integer.MAX_VALUE), NONE);
        CubeChecker on = laid("p31;v00;e0190000;e1290000;");
        due("from the trap on", on.state(2, -1), 1);
    }

    private static void found() {
        promise = 16;
        CubeChecker x = laid("p32;v24;c005;c105;c104;e0190201;");
        x.look(0, 0, 1);
        x.look(0, 2, 1);
        x.look(1, 1, 1);
        x.look(2, 1, 1);
        x.look(2, 2, 1);
        dueRow("found", new int[] {x.found(0), x.found(1), x.found(2), x.found(3), x.found(-1)}, 1, 0, 6, BAD, BAD);
        x.look(0, 0, 0);
        due("not looked at", x.found(0), 0);
    }

    private static void path() {
        promise = 17;
        CubeChecker x = laid("p43;v00;v00;c102;c112;e0190000;e1201000;e1211000;e2390000;");
        dueRow("by states as they come", new int[] {x.path(-1), x.path(-2), x.path(0), x.path(1), x.path(2), x.path(3),
            x.path(-3)}, 3, 1, 0, 1, 3, NONE, BAD);
        x.look(0, 0, 1);
        x.look(1, 0, 1);
        dueRow("another way", new int[] {x.path(-1), x.path(-2), x.path(0), x.path(1), x.path(2)}, 3, 1, 0, 2, 3);
        x.look(0, 1, 1);
        x.look(1, 1, 1);
        dueRow("safe", new int[] {x.path(-1), x.path(-2), x.path(0), x.path(-3)}, NONE, NONE, NONE, BAD);
        x.turn(1);
        dueRow("real", new int[] {x.path(-1), x.path(-2), x.path(1)}, 3, 3, 1);
        CubeChecker here = laid("p20;v00;e0190000;");
        dueRow("trap is place 0", new int[] {here.path(-1), here.path(-2), here.path(0)}, 0, 0, NONE);
        CubeChecker many = laid("p21;v07;v07;v07;e0190000;");
        dueRow("all values are first ones", new int[] {many.path(-1), many.path(-2), many.run(-1)}, 1, 1, 1);
        CubeChecker three = laid("p21;v33;c103;e0101000;");
        dueRow("first values count", new int[] {three.path(-1), three.path(-2)}, 1, 1);
        CubeChecker lowest = laid("p32;v01;c101;e0101000;e0100000;e1290000;");
        lowest.look(0, 0, 1);
        dueRow("by the state that came first", new int[] {lowest.path(-1), lowest.path(0), lowest.path(1)}, 2, 1, 2);
    }

    private static void mend() {
        promise = 18;
        CubeChecker x = laid(TWO_WAYS);
        due("mend()", x.mend(), 1);
        dueRow("looked", new int[] {x.looked(0), x.looked(1), x.path(0), x.count(7)}, 1, 1, 1, 1);
        due("mend()", x.mend(), 2);
        dueRow("looked", new int[] {x.looked(0), x.looked(1), x.path(-1), x.count(7)}, 3, 3, NONE, 2);
        due("safe", x.mend(), NO);
        due("no change", x.count(7), 2);
        x = laid(NEEDS_TWO);
        dueRow("needs two", new int[] {x.path(-1), x.path(-2), x.mend(), x.path(-1), x.count(5)}, 3, 2, 3, NONE, 8);
        x.undo();
        for (int p = 0; p < 4; p++) x.look(p, 2, 1);
        due("one with what is looked at", x.mend(), 1);
        x = laid(NO_SET);
        dueRow("no set", new int[] {x.path(-1), x.path(-2), x.mend(), x.count(7)}, 1, 0, NONE, 0);
        x = laid("p21;v00;e0190000;");
        dueRow("real", new int[] {x.mend(), x.count(7)}, NO, 0);
        x = laid("p43;v00;v00;c102;c112;e0190000;e0290000;e1301000;");
        due("mend()", x.mend(), 1);
        CubeChecker past = laid("p32;v00;c100;e0200000;");
        dueRow("past a place", new int[] {past.mend(), past.looked(0), past.looked(1), past.looked(2)}, 1, 1, 0, 1);
        dueRow("only on the path", new int[] {x.looked(0), x.looked(1), x.looked(2), x.looked(3)}, 1, 1, 0, 1);
    }

    private static void check() {
        promise = 19;
        CubeChecker x = laid(TWO_WAYS);
        dueRow("wrong", new int[] {x.check(0), x.check(10), x.check(-1), x.count(7)}, BAD, BAD, BAD, 0);
        dueRow("one round", new int[] {x.check(1), x.looked(0), x.count(7)}, 2, 1, 1);
        dueRow("another", new int[] {x.check(1), x.looked(0), x.count(7)}, 0, 3, 2);
        dueRow("safe already", new int[] {x.check(9), x.looked(0), x.count(7)}, 0, 3, 3);
        dueRow("undone", new int[] {x.undo(), x.undo(), x.looked(0), x.undo(), x.looked(0)}, 2, 1, 1, 0, 0);
        dueRow("both", new int[] {x.check(2), x.looked(0), x.count(7), x.undo(), x.looked(0)}, 0, 3, 1, 0, 0);
        x.turn(1);
        dueRow("real in the end", new int[] {x.check(1), x.looked(0)}, 1, 1);
        dueRow("real already", new int[] {x.check(9), x.looked(0), x.count(7)}, 1, 1, 3);
        x = laid(NO_SET);
        dueRow("no set", new int[] {x.check(1), x.check(9), x.count(7), x.count(5)}, 3, 3, 2, 0);
        x = laid("p21;v00;v00;c110;e0100000;e0190301;");
        dueRow("mended, then no set", new int[] {x.check(1), x.looked(0), x.undo(), x.check(2), x.looked(0)}, 2, 1, 0, 3, 1);
        x = new CubeChecker();
        due("at first", x.check(1), 0);
    }

    private static void undo() {
        promise = 20;
        CubeChecker x = new CubeChecker();
        due("undo()", x.undo(), NO);
        for (int i = 0; i < 7; i++) x.look(i / 5, i % 5, 1);
        due("changes", x.count(7), 6);
        for (int left = 5; left >= 0; left--) due("undo()", x.undo(), left);
        due("undo()", x.undo(), NO);
        dueRow("the first stays", new int[] {x.looked(0), x.looked(1)}, 1, 0);
        x.turn(3);
        x.mend();
        x.turn(3);
        due("check", x.check(9), 0);
        x.look(2, 1, 1);
        dueRow("behind", new int[] {x.count(7), x.looked(2), x.edge(3, 3), x.path(-1)}, 4, 2, 0, NONE);
        dueRow("look undone", new int[] {x.undo(), x.looked(2), x.looked(1)}, 3, 0, 4);
        dueRow("check undone", new int[] {x.undo(), x.looked(1), x.path(-2), x.found(1)}, 2, 0, 1, 0);
        dueRow("turn undone", new int[] {x.undo(), x.edge(3, 3), x.real(3, 0), x.path(-2), x.run(-1)}, 1, 1, 2, 2, 2);
        dueRow("turn undone", new int[] {x.undo(), x.edge(3, 3), x.real(3, 0), x.path(-2), x.run(-1)}, 0, 0, NONE, 1, NONE);
        due("undo()", x.undo(), NO);
        x.look(3, 3, 1);
        dueRow("a change behind undo", new int[] {x.count(7), x.undo(), x.looked(3), x.looked(0)}, 1, 0, 0, 1);
        CubeChecker first = laid(TWO_WAYS);
        dueRow("edge 0 turned and undone", new int[] {first.turn(0), first.edge(0, 3), first.undo(), first.edge(0, 3),
            first.edge(1, 3)}, 1, 1, 0, 0, 0);
        for (int i = 0; i < 8; i++) x.turn(1);
        x.undo();
        x.undo();
        due("two of six undone", x.count(7), 4);
    }

    private static void count() {
        promise = 21;
        CubeChecker x = laid("p53;v00;v00;c105;c004;c301;e0100000;e1490000;");
        x.look(0, 0, 1);
        x.look(1, 0, 1);
        x.look(1, 1, 1);
        x.look(2, 1, 1);
        int[] counts = {5, 3, 2, 3, 2, 4, 4, 4, 45};
        for (int what = 0; what < 9; what++) due("count(" + what + ")", x.count(what), counts[what]);
        dueRow("wrong", new int[] {x.count(-1), x.count(9), x.count(Integer.MIN_VALUE)}, BAD, BAD, BAD);
    }

    public static void main(String[] args) {
        newObject();
        write();
        wipe();
        fault();
        lay();
        edge();
        turn();
        so();
        gone();
        real();
        run();
        look();
        looked();
        may();
        state();
        found();
        path();
        mend();
        check();
        undo();
        count();
        System.out.println(wrong == 0 ? "all promises are kept" : wrong + " answers are not as due");
        if (wrong != 0) System.exit(1);
    }
}
