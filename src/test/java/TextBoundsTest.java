import java.util.List;

/** The bounds that the document names for a TEXT, and those of promises 1 to 5: one sentence each. */
public final class TextBoundsTest {
    private static final int BAD = Due.BAD, NO = Due.NO, FULL = Due.FULL, NONE = Due.NONE;
    private static final Due due = new Due();
    private static final String[] VARIABLES = {"", "v00;", "v00;v00;", "v00;v00;v00;"};
    /** ITEMS of each kind; they begin at 0, 4, 8, 13. */
    private static final String EACH_KIND = "p32;v07;c003;e0101203;";
    private static final int[] BEGINS = {0, 4, 8, 13, 22};

    private static int beginOfItem(int at) {
        int begin = 0;
        for (int next : BEGINS) if (next <= at) begin = next;
        return begin;
    }

    private static int faultIf(boolean good, int place) {
        return good ? NONE : place;
    }

    private static boolean isFigure(char letter) {
        return letter >= '0' && letter <= '9';
    }

    // ---- 1: how many there may be

    private static void places() {
        due.by("PLACES (2 to 8): pNX, there are N PLACES (2 to 8)");
        for (int n = 0; n <= 9; n++) {
            due.fault("p" + n + "0;", faultIf(n >= 2 && n <= 8, 0));
            CubeChecker x = Due.laid("p" + n + "0;");
            int places = n >= 2 && n <= 8 ? n : 4;
            due.are("PLACES of p" + n + "0;", new int[] {x.count(0), x.looked(places - 1), x.looked(places)}, places, 0, BAD);
        }
    }

    private static void trap() {
        due.by("the TRAP is X (such as there is)");
        for (int n = 2; n <= 8; n++) {
            for (int trap = 0; trap <= 9; trap++) {
                due.fault("p" + n + trap + ";", faultIf(trap < n, 0));
                if (trap < n) due.is("TRAP of p" + n + trap, Due.laid("p" + n + trap + ";").count(1), trap);
            }
        }
    }

    private static void placesOnce() {
        due.by("pNX: once, first of all ITEMS");
        due.fault("p20;p20;", 4);
        due.fault("p20;p31;", 4);
        due.fault("p20;v00;c000;e0190000;p20;", 22);
        due.fault("p20;p99;", 4);
    }

    private static void placesFirst() {
        due.by("pNX: first of all ITEMS, so no other one can be first");
        due.fault("v00;", 0);
        due.fault("c000;", 0);
        due.fault("e0190000;", 0);
        due.fault("v00;p20;", 0);
        due.fault("e0190000;p20;", 0);
    }

    private static void variablesMost() {
        due.by("VARIABLES 0, 1, 2 (3 at most)");
        for (int n = 0; n <= 3; n++) {
            due.fault("p20;" + VARIABLES[n], NONE);
            due.is(n + " VARIABLES", Due.laid("p20;" + VARIABLES[n]).count(2), n);
        }
        due.fault("p20;v00;v00;v00;v00;", 16);
        due.fault("p20;v00;c000;v00;e0190000;v00;v07;", 30);
        due.fault("p20;v00;v00;v00;v10;", 16);
    }

    private static void firstValues() {
        due.by("vLH: at first any of L to H (0 to 7, L no more than H)");
        for (int low = 0; low <= 9; low++) {
            for (int high = 0; high <= 9; high++) {
                String text = "p20;v" + low + high + ";";
                boolean good = low <= high && high <= 7;
                due.fault(text, faultIf(good, 4));
                if (!good) continue;
                String asks = "c00" + low + ";c00" + (low + 1) + ";c00" + high + ";c00" + (high + 1) + ";";
                CubeChecker x = Due.laid(text + asks);
                due.is("values of " + text, x.real(0, 1), high - low + 1);
                due.is("below L, L + 1, H, H + 1 of " + text, x.real(0, 2), low == high ? 10 : 8);
            }
        }
    }

    private static void firstValuesOfAll() {
        due.by("It begins at PLACE 0 with any values that VARIABLES can have at first");
        CubeChecker x = Due.laid("p20;v01;v35;v67;c002;c013;c016;c026;");
        due.are("PLACE 0", new int[] {x.real(0, 0), x.real(0, 1), x.real(0, 2)}, 0, 2 * 3 * 2, 1 + 4);
        due.are("PLACE 1", new int[] {x.real(1, 0), x.real(1, 1)}, NONE, 0);
        due.is("without VARIABLES", Due.laid("p20;").real(0, 1), 1);
        due.is("of all values", Due.laid("p20;v07;v07;v07;").real(0, 1), 512);
    }

    private static void comparisonsMost() {
        due.by("COMPARISONS 0, 1, .. (8 at most)");
        for (int n = 0; n <= 8; n++) {
            String text = "p20;v00;" + "c000;".repeat(n);
            due.fault(text, NONE);
            due.is("COMPARISONS of " + text, Due.laid(text).count(3), n);
        }
        due.fault("p20;v00;" + "c000;".repeat(9), 48);
        due.fault("p20;v00;" + "c000;".repeat(8) + "e0190000;c000;", 57);
        due.fault("p20;v00;" + "c000;".repeat(8) + "c900;", 48);
    }

    private static void edgesMost() {
        due.by("EDGES 0, 1, .. (14 at most)");
        for (int n = 0; n <= 14; n++) {
            String text = "p20;" + "e0190000;".repeat(n);
            due.fault(text, NONE);
            due.is("EDGES of " + text, Due.laid(text).count(4), n);
        }
        due.fault("p20;" + "e0190000;".repeat(15), 130);
        due.fault("p20;" + "e0190000;".repeat(14) + "v00;e0190000;", 134);
    }

    private static void allFull() {
        due.by("8 PLACES, 3 VARIABLES, 8 COMPARISONS and 14 EDGES all at once, and none of each more");
        due.fault(Due.ALL_FULL, NONE);
        CubeChecker x = Due.laid(Due.ALL_FULL);
        due.are("counts", new int[] {x.count(0), x.count(1), x.count(2), x.count(3), x.count(4), x.count(8)},
            8, 7, 3, 8, 14, 182);
        due.are("the last EDGE", new int[] {x.edge(13, 0), x.edge(13, 1), x.edge(13, 2), x.edge(13, 3), x.edge(13, 4),
            x.edge(13, 5), x.edge(13, 6)}, 7, 7, 7, 1, 1, 0, 7);
        due.are("the last COMPARISON", new int[] {x.so(7, 0, 0, 1), x.so(7, 1, 1, 0)}, 1, 0);
        for (String more : List.of("p87;", "v00;", "c000;", "e0190000;", "x", "p", "e0190000")) {
            due.fault(Due.ALL_FULL + more, 182);
        }
    }

    // ---- 1: the form of ITEMS

    private static void cutOff() {
        due.by("each a letter, then figures (one for each letter told here), a ; behind each: an ITEM that is cut off");
        for (int length = 0; length <= EACH_KIND.length(); length++) {
            int begin = beginOfItem(length);
            due.fault(EACH_KIND.substring(0, length), faultIf(begin == length, begin));
        }
    }

    private static void anotherLetter() {
        due.by("each a letter (p, v, c or e): any other one there");
        for (int i = 0; i < 4; i++) {
            for (char letter = 32; letter <= 126; letter++) {
                char asTold = EACH_KIND.charAt(BEGINS[i]);
                if (letter != asTold) due.fault(put(BEGINS[i], letter), BEGINS[i]);
            }
        }
    }

    private static void noFigure() {
        due.by("then figures (0 to 9): any other letter there");
        for (int at = 0; at < EACH_KIND.length(); at++) {
            if (!isFigure(EACH_KIND.charAt(at))) continue;
            for (char letter = 32; letter <= 126; letter++) {
                if (!isFigure(letter)) due.fault(put(at, letter), beginOfItem(at));
            }
        }
    }

    private static void noEnd() {
        due.by("a ; behind each: any other letter there");
        for (int i = 1; i < 5; i++) {
            for (char letter = 32; letter <= 126; letter++) {
                if (letter != ';') due.fault(put(BEGINS[i] - 1, letter), BEGINS[i - 1]);
            }
        }
    }

    private static String put(int at, char letter) {
        return EACH_KIND.substring(0, at) + letter + EACH_KIND.substring(at + 1);
    }

    private static void oneLetterFewer() {
        due.by("one figure for each letter told here: one letter fewer anywhere");
        for (int at = 0; at < EACH_KIND.length(); at++) {
            due.fault(EACH_KIND.substring(0, at) + EACH_KIND.substring(at + 1), beginOfItem(at));
        }
    }

    private static void oneLetterMore() {
        due.by("one figure for each letter told here: one letter more anywhere");
        for (int at = 0; at < EACH_KIND.length(); at++) {
            char letter = EACH_KIND.charAt(at);
            String text = EACH_KIND.substring(0, at) + letter + EACH_KIND.substring(at);
            due.fault(text, letter == ';' ? at + 1 : beginOfItem(at));
        }
    }

    private static void oneBehindTheOther() {
        due.by("ITEMS one behind the other: nothing between, ahead or behind them");
        for (String between : List.of(" ", ";", "0", "x")) {
            due.fault(between + "p20;v00;", 0);
            due.fault("p20;" + between + "v00;", 4);
            due.fault("p20;v00;" + between, 8);
        }
    }

    // ---- 1: COMPARISONS

    private static void comparisonFigures() {
        due.by("cKVW: K 0 to 4; V, and W by 2, 3, 4, a VARIABLE told ahead; W by 0, 1 a figure 0 to 9");
        for (int variables = 0; variables <= 3; variables++) {
            for (int f = 0; f <= 999; f++) {
                int k = f / 100, v = f / 10 % 10, w = f % 10;
                boolean good = k <= 4 && v < variables && (k < 2 || w < variables);
                String item = "c" + k + v + w + ";";
                due.fault("p20;" + VARIABLES[variables] + item, faultIf(good, 4 + 4 * variables));
            }
        }
    }

    private static void comparisonOfLater() {
        due.by("cKVW: a VARIABLE told ahead, so not one that is told behind");
        due.fault("p20;c000;v00;", 4);
        due.fault("p20;v00;c010;v00;", 8);
        due.fault("p20;v00;c201;v00;", 8);
        due.fault("p20;v00;c301;v00;", 8);
        due.fault("p20;v00;c401;v00;", 8);
        due.fault("p20;v00;v00;c201;c210;", NONE);
    }

    // ---- 1: EDGES

    private static void edgePlaces() {
        due.by("eABGTSVK: from PLACE A to PLACE B, such as there are");
        for (int n = 2; n <= 8; n++) {
            for (int a = 0; a <= 9; a++) {
                due.fault("p" + n + "0;e" + a + "090000;", faultIf(a < n, 4));
                due.fault("p" + n + "0;e0" + a + "90000;", faultIf(a < n, 4));
            }
        }
    }

    private static void edgeAsks() {
        due.by("eABGTSVK: COMPARISON G (told ahead; 9: nothing is asked)");
        for (int n = 0; n <= 8; n++) {
            for (int g = 0; g <= 9; g++) {
                String text = "p20;v00;" + "c000;".repeat(n) + "e01" + g + "0000;";
                due.fault(text, faultIf(g < n || g == 9, 8 + 5 * n));
            }
        }
        due.fault("p20;v00;e0100000;c000;", 8);
        due.fault("p20;v00;c000;e0110000;c000;", 13);
    }

    private static void edgeSo() {
        due.by("eABGTSVK: is so (T 1) or not (T 0); by 9, too, T is 0 or 1");
        for (int t = 0; t <= 9; t++) {
            due.fault("p20;v00;c000;e010" + t + "000;", faultIf(t <= 1, 13));
            due.fault("p20;v00;c000;e019" + t + "000;", faultIf(t <= 1, 13));
        }
    }

    private static void edgeDoes() {
        due.by("eABGTSVK: it does S: 0 to 5");
        for (int s = 0; s <= 9; s++) due.fault("p20;v00;e0190" + s + "00;", faultIf(s <= 5, 8));
    }

    private static void edgeFigures(int s, int variables, int vBelow, int kBelow) {
        for (int v = 0; v <= 9; v++) {
            for (int k = 0; k <= 9; k++) {
                String text = "p20;" + VARIABLES[variables] + "e0190" + s + v + k + ";";
                due.fault(text, faultIf(v < vBelow && k < kBelow, 4 + 4 * variables));
            }
        }
    }

    private static void edgeDoesNothing() {
        due.by("S 0 nothing (V, K do not matter)");
        for (int n = 0; n <= 3; n++) edgeFigures(0, n, 10, 10);
    }

    private static void edgeSets() {
        due.by("S 1 V becomes K (0 to 7), V a VARIABLE told ahead");
        for (int n = 0; n <= 3; n++) edgeFigures(1, n, n, 8);
    }

    private static void edgeAdds() {
        due.by("S 2 V becomes K more (0 to 9), V a VARIABLE told ahead");
        for (int n = 0; n <= 3; n++) edgeFigures(2, n, n, 10);
    }

    private static void edgeTakes() {
        due.by("S 3 V becomes K less (0 to 9), V a VARIABLE told ahead");
        for (int n = 0; n <= 3; n++) edgeFigures(3, n, n, 10);
    }

    private static void edgeCopies() {
        due.by("S 4 V becomes as VARIABLE K, both told ahead");
        for (int n = 0; n <= 3; n++) edgeFigures(4, n, n, n);
    }

    private static void edgeJoins() {
        due.by("S 5 V becomes VARIABLE K more, both told ahead");
        for (int n = 0; n <= 3; n++) edgeFigures(5, n, n, n);
    }

    private static void edgeOfLater() {
        due.by("eABGTSVK: a VARIABLE told ahead, so not one that is told behind");
        due.fault("p20;e0190100;v00;", 4);
        due.fault("p20;v00;e0190210;v00;", 8);
        due.fault("p20;v00;e0190401;v00;", 8);
        due.fault("p20;v00;e0190501;v00;", 8);
        due.fault("p20;v00;v00;e0190501;", NONE);
    }

    // ---- 1: FAULT and LAID

    private static void firstFault() {
        due.by("FAULT: the place of the first letter of the first ITEM that is not so");
        due.fault("p20;v00;c050;x", 8);
        due.fault("p20;v80;c050;", 4);
        due.fault("p99;v80;", 0);
        due.fault("p20;v00;c000;e0190108;e0190109;", 13);
        due.fault("p20;v0;v00;", 4);
    }

    private static void oneTooMany() {
        due.by("FAULT: (or is one too many): the place of that one, of several the first");
        due.fault("p20;v00;v00;v00;v00;v00;v00;", 16);
        due.fault("p20;v00;" + "c000;".repeat(11), 48);
        due.fault("p20;" + "e0190000;".repeat(16) + "v99;", 130);
        due.fault("p20;v00;v00;v00;e0190000;v00;p20;", 25);
    }

    private static void laidOrNot() {
        due.by("LAID is a TEXT without FAULT that tells of PLACES (NO else)");
        due.is("an empty TEXT", new CubeChecker().lay(), NO);
        due.is("a TEXT with a FAULT", Due.written("p20;v").lay(), NO);
        due.is("PLACES and no more", Due.written("p20;").lay(), 2);
        due.refused("lay() of an empty TEXT", TextBoundsTest::changed, CubeChecker::lay, NO);
        due.refused("lay() with a FAULT", () -> changedWith("p20;v00;c000;e0110000;"), CubeChecker::lay, NO);
        due.refused("lay() with a FAULT at 0", () -> changedWith("x"), CubeChecker::lay, NO);
    }

    /** A new object with five changes of all kinds. */
    private static CubeChecker changed() {
        CubeChecker x = new CubeChecker();
        x.look(1, 2, 1);
        x.turn(1);
        x.look(0, 0, 1);
        x.look(1, 2, 0);
        x.check(2);
        return x;
    }

    private static CubeChecker changedWith(String text) {
        CubeChecker x = changed();
        Due.write(x, text);
        return x;
    }

    // ---- promise 1

    private static void newObjectIsAsTold() {
        due.by("1 A new object: As told (at first p43; .. e1320000;), nothing LOOKED AT, nothing can be UNDONE");
        CubeChecker told = Due.laid(Due.AT_FIRST);
        told.wipe();
        due.same("a new object", Due.everything(new CubeChecker()), Due.everything(told));
        CubeChecker x = new CubeChecker();
        due.are("counts", new int[] {x.count(0), x.count(1), x.count(2), x.count(3), x.count(4), x.count(5), x.count(6),
            x.count(7)}, 4, 3, 2, 5, 4, 0, 4, 0);
        due.is("undo()", x.undo(), NO);
    }

    private static void newTextIsEmpty() {
        due.by("1 A new object: THE TEXT is empty");
        CubeChecker x = new CubeChecker();
        due.are("THE TEXT", new int[] {x.count(8), x.fault(), x.lay(), x.wipe(), x.write('p')}, 0, NONE, NO, 0, 1);
    }

    private static void newObjectsAreApart() {
        due.by("1 A new object: whatever was done to others");
        CubeChecker other = changedWith("p20;");
        CubeChecker x = new CubeChecker();
        other.lay();
        due.are("counts", new int[] {x.count(0), x.count(5), x.count(7), x.count(8), x.edge(1, 3)}, 4, 0, 0, 0, 1);
    }

    // ---- promise 2

    private static void writeTakes() {
        due.by("2 write: A letter (32 to 126, as in ASCII) comes behind THE TEXT: how long it is");
        CubeChecker x = new CubeChecker();
        for (int letter = 32; letter <= 126; letter++) due.is("write(" + letter + ")", x.write(letter), letter - 31);
        CubeChecker y = new CubeChecker();
        due.are("p20;", new int[] {y.write('p'), y.write('2'), y.write('0'), y.write(';'), y.fault(), y.lay()},
            1, 2, 3, 4, NONE, 2);
        due.are("x behind it", new int[] {y.write('x'), y.fault(), y.lay()}, 5, 4, NO);
    }

    private static void writeBad() {
        due.by("2 write: BAD (below 32, above 126)");
        CubeChecker x = Due.written("p20;");
        for (int letter = -1; letter < 32; letter++) due.is("write(" + letter + ")", x.write(letter), BAD);
        for (int letter = 127; letter < 300; letter++) due.is("write(" + letter + ")", x.write(letter), BAD);
        int[] far = {65536 + 'v', 'v' - 65536, 256 + 'v', 'v' - 256, Due.LOWEST, Due.HIGHEST, Due.LOWEST + 'v'};
        for (int letter : far) due.is("write(" + letter + ")", x.write(letter), BAD);
        due.are("nothing was written", new int[] {x.count(8), x.fault(), x.lay()}, 4, NONE, 2);
        due.refused("write(31)", () -> changedWith("p20;"), y -> y.write(31), BAD);
        due.refused("write(127)", () -> changedWith("p20;"), y -> y.write(127), BAD);
    }

    private static CubeChecker fullOf(String text) {
        CubeChecker x = Due.written(text);
        for (int length = text.length(); length < 200; length++) x.write('x');
        return x;
    }

    private static void writeFull() {
        due.by("2 write: FULL: it has 200");
        CubeChecker x = new CubeChecker();
        for (int i = 1; i <= 199; i++) x.write('x');
        due.are("the 200th and one more", new int[] {x.count(8), x.write('x'), x.write('x'), x.write(32), x.write(126)},
            199, 200, FULL, FULL, FULL);
        due.are("it stays as it was", new int[] {x.count(8), x.fault(), x.wipe()}, 200, 0, 200);
        String text = Due.ALL_FULL + " ".repeat(18);
        CubeChecker y = Due.written(text);
        due.are("no letter comes elsewhere", new int[] {y.write('z'), y.fault(), y.count(8)}, FULL, 182, 200);
        due.refused("write('x'), full", () -> changedWith("p20;" + "x".repeat(196)), z -> z.write('x'), FULL);
        due.refused("write(31), full", () -> changedWith("p20;" + "x".repeat(196)), z -> z.write(31), BAD);
    }

    private static void writeBadAheadOfFull() {
        due.by("2 write: of BAD and FULL the first in this order");
        CubeChecker x = fullOf("p20;");
        due.are("wrong letters, full", new int[] {x.write(31), x.write(127), x.write(-1), x.write(Due.LOWEST),
            x.write(Due.HIGHEST), x.write('x'), x.count(8)}, BAD, BAD, BAD, BAD, BAD, FULL, 200);
    }

    // ---- promise 3

    private static void wipeAnswers() {
        due.by("3 wipe: THE TEXT is empty: how long it was");
        CubeChecker x = new CubeChecker();
        due.are("empty", new int[] {x.wipe(), x.count(8)}, 0, 0);
        x.write('x');
        due.are("one letter", new int[] {x.fault(), x.wipe(), x.count(8), x.fault(), x.wipe()}, 0, 1, 0, NONE, 0);
        CubeChecker y = fullOf("p20;");
        due.are("200 letters", new int[] {y.wipe(), y.count(8), y.write('p'), y.fault(), y.wipe()}, 200, 0, 1, 0, 1);
    }

    private static void wipeMakesRoom() {
        due.by("3 wipe: behind it 200 letters can be written again");
        CubeChecker x = fullOf("");
        x.wipe();
        int length = 0;
        for (int i = 0; i < 200; i++) length = x.write('x');
        due.are("full again", new int[] {length, x.write('x')}, 200, FULL);
    }

    private static void wipeIsNoChange() {
        due.by("3 wipe: nothing but THE TEXT: what is LAID, LOOKED AT and can be UNDONE stays");
        CubeChecker x = changedWith("p20;");
        CubeChecker other = changed();
        due.is("wipe()", x.wipe(), 4);
        due.same("all else", Due.everything(x), Due.everything(other));
        due.same("the past", Due.past(x), Due.past(other));
    }

    // ---- promise 4

    private static void faultNone() {
        due.by("4 fault: NONE (of an empty TEXT, too)");
        due.fault("", NONE);
        due.fault("p20;", NONE);
        due.fault(Due.AT_FIRST, NONE);
        due.fault(Due.ALL_FULL, NONE);
        due.refused("fault(), empty", TextBoundsTest::changed, CubeChecker::fault, NONE);
        due.refused("fault(), no FAULT", () -> changedWith("p20;v00;"), CubeChecker::fault, NONE);
    }

    private static void faultPlaces() {
        due.by("4 fault: the place, 0 the first letter, up to behind the longest TEXT that is without FAULT");
        due.fault("x", 0);
        due.fault("p20;x", 4);
        due.fault(Due.ALL_FULL + "x".repeat(18), 182);
    }

    private static void faultOfTheText() {
        due.by("4 fault: of THE TEXT as it is, not of what is LAID; nothing changes");
        CubeChecker x = changedWith("p20;v");
        CubeChecker other = changedWith("p20;v");
        due.are("twice", new int[] {x.fault(), x.fault()}, 4, 4);
        due.same("all else", Due.everything(x), Due.everything(other));
        due.same("the past", Due.past(x), Due.past(other));
        x.write('0');
        x.write('0');
        due.are("told to its end", new int[] {x.fault(), x.write(';'), x.fault(), x.count(0)}, 4, 8, NONE, 4);
        x.wipe();
        due.is("wiped", x.fault(), NONE);
    }

    // ---- promise 5

    private static void layAnswers() {
        due.by("5 lay: LAID: how many PLACES");
        for (int n = 2; n <= 8; n++) {
            CubeChecker x = Due.written("p" + n + (n - 1) + ";");
            due.are("p" + n, new int[] {x.lay(), x.count(0), x.count(1)}, n, n, n - 1);
        }
    }

    private static void layForgets() {
        due.by("5 lay: nothing is LOOKED AT, can be UNDONE (behind LAID none can be)");
        CubeChecker x = changedWith(Due.AT_FIRST);
        due.are("ahead of it", new int[] {x.count(7), x.edge(1, 3), x.lay()}, 5, 0, 4);
        due.are("behind it", new int[] {x.count(5), x.count(7), x.undo(), x.looked(0), x.looked(1), x.edge(1, 3)},
            0, 0, NO, 0, 0, 1);
        CubeChecker told = Due.laid(Due.AT_FIRST);
        due.same("all is as told", Due.everything(x), Due.everything(told));
        CubeChecker y = new CubeChecker();
        for (int i = 0; i < 7; i++) y.turn(1);
        Due.write(y, "p20;v00;c000;");
        due.are("behind seven changes", new int[] {y.count(7), y.lay(), y.count(7), y.undo(), y.look(0, 0, 1), y.undo(),
            y.undo()}, 6, 2, 0, NO, 1, 0, NO);
    }

    private static void layAnother() {
        due.by("5 lay: nothing is left of what was LAID ahead, from the fullest to the emptiest and back");
        CubeChecker x = Due.laid(Due.ALL_FULL);
        x.look(7, 7, 1);
        x.mend();
        askAll(x);
        x.wipe();
        Due.write(x, "p20;");
        due.is("lay()", x.lay(), 2);
        due.same("the emptiest", Due.everything(x), Due.everything(Due.laid("p20;")));
        due.are("what is there no more", new int[] {x.looked(2), x.edge(0, 0), x.so(0, 0, 0, 0), x.turn(1)}, BAD, BAD, BAD, BAD);
        String[] texts = {"p20;", "p43;v77;c107;c100;e0190309;e1300000;", Due.AT_FIRST, "p32;v07;v07;c100;c110;e0190000;e1201000;"};
        for (String first : texts) {
            for (String next : texts) {
                CubeChecker y = Due.laid(first);
                Due.everything(y);
                y.wipe();
                Due.write(y, next);
                y.lay();
                CubeChecker z = Due.laid(next);
                due.same(next + " behind " + first, Due.everything(y), Due.everything(z));
                due.are(next + " behind " + first, lookAtTwo(y), lookAtTwo(z));
            }
        }
    }

    /** So that all that can be kept from one call to the next is there. */
    private static void askAll(CubeChecker x) {
        x.count(6);
        x.path(-2);
        x.run(-1);
        x.real(0, 0);
        x.may(13, 0, 0);
    }

    private static int[] lookAtTwo(CubeChecker x) {
        return new int[] {x.look(0, 0, 1), x.look(1, 1, 1), x.count(6), x.state(0, -1), x.state(0, 0), x.state(0, 1), x.state(1, -1),
            x.state(1, 0), x.state(1, 1), x.path(-1), x.path(-2), x.found(0), x.found(1), x.may(0, 0, 0), x.may(0, 0, 2),
            x.may(1, 0, 0), x.may(1, 2, 0)};
    }

    private static void textStays() {
        due.by("5 lay: THE TEXT stays when it is LAID");
        CubeChecker x = Due.written("p31;v00;");
        due.are("LAID twice", new int[] {x.lay(), x.count(8), x.fault(), x.lay(), x.count(8)}, 3, 8, NONE, 3, 8);
        Due.write(x, "c000;");
        due.are("more behind it", new int[] {x.count(8), x.count(3), x.lay(), x.count(3)}, 13, 0, 3, 1);
        x.write('x');
        due.are("a FAULT behind it", new int[] {x.lay(), x.count(3), x.count(8), x.wipe()}, NO, 1, 14, 14);
    }

    public static void main(String[] args) {
        places();
        trap();
        placesOnce();
        placesFirst();
        variablesMost();
        firstValues();
        firstValuesOfAll();
        comparisonsMost();
        edgesMost();
        allFull();
        cutOff();
        anotherLetter();
        noFigure();
        noEnd();
        oneLetterFewer();
        oneLetterMore();
        oneBehindTheOther();
        comparisonFigures();
        comparisonOfLater();
        edgePlaces();
        edgeAsks();
        edgeSo();
        edgeDoes();
        edgeDoesNothing();
        edgeSets();
        edgeAdds();
        edgeTakes();
        edgeCopies();
        edgeJoins();
        edgeOfLater();
        firstFault();
        oneTooMany();
        laidOrNot();
        newObjectIsAsTold();
        newTextIsEmpty();
        newObjectsAreApart();
        writeTakes();
        writeBad();
        writeFull();
        writeBadAheadOfFull();
        wipeAnswers();
        wipeMakesRoom();
        wipeIsNoChange();
        faultNone();
        faultPlaces();
        faultOfTheText();
        layAnswers();
        layForgets();
        layAnother();
        textStays();
        due.end();
    }
}
