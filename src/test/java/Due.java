import java.util.ArrayList;
import java.util.List;
import java.util.function.Supplier;
import java.util.function.ToIntFunction;

/** What is due, sentence by sentence of the document; the tests of its bounds share this. */
final class Due {
    static final int BAD = -1, NO = -2, FULL = -3, NONE = -4;
    static final int LOWEST = Integer.MIN_VALUE, HIGHEST = Integer.MAX_VALUE;
    /** What is LAID in a new object. */
    static final String AT_FIRST = "p43;v02;v00;c005;c015;c301;c201;c107;e0190410;e1201201;e2190410;e1320000;";
    /** All that there can be: 8 PLACES, 3 VARIABLES, 8 COMPARISONS, 14 EDGES; 182 letters. */
    static final String ALL_FULL = "p87;v07;v34;v77;c003;c117;c202;c312;c421;c009;c020;c121;"
        + "e0190000;e1291201;e2300301;e3411113;e4520420;e5631512;e6740099;e7051200;e0761301;e1270421;e2790520;"
        + "e3190207;e4091309;e7771107;";
    private static final int CALLS_MOST = 512;
    private static final int TOLD_MOST = 5;

    private String sentence = "";
    private int sentences = 0;
    private int asked = 1;
    private int wrongHere = 0;
    private int wrong = 0;

    /** What is asked from here on is due by this sentence. */
    void by(String words) {
        close();
        sentence = words;
        sentences++;
        asked = 0;
        wrongHere = 0;
    }

    void is(String call, int got, int want) {
        asked++;
        if (got != want) tell(call + " answered " + got + ", due is " + want);
    }

    /** Several calls at once, each with what is due. */
    void are(String calls, int[] got, int... want) {
        is(calls + ": how many", got.length, want.length);
        for (int i = 0; i < want.length && i < got.length; i++) is(calls + " [" + i + "]", got[i], want[i]);
    }

    void same(String what, List<Integer> got, List<Integer> want) {
        asked++;
        if (!got.equals(want)) tell(what + ": " + got + ", due is " + want);
    }

    private void tell(String words) {
        wrong++;
        wrongHere++;
        if (wrongHere == 1) System.out.println("NOT KEPT: " + sentence);
        if (wrongHere <= TOLD_MOST) System.out.println("    " + words);
    }

    private void close() {
        if (asked == 0) tell("nothing was asked for this sentence");
    }

    /** Ends the test. */
    void end() {
        close();
        System.out.println(wrong == 0 ? sentences + " sentences hold" : wrong + " answers are not as due");
        if (wrong != 0) System.exit(1);
    }

    static void write(CubeChecker x, String text) {
        for (char letter : text.toCharArray()) x.write(letter);
    }

    static CubeChecker written(String text) {
        CubeChecker x = new CubeChecker();
        write(x, text);
        return x;
    }

    static CubeChecker laid(String text) {
        CubeChecker x = written(text);
        x.lay();
        return x;
    }

    /** FAULT of a text; and it can be LAID just if there is none and it tells of PLACES. */
    void fault(String text, int want) {
        CubeChecker x = written(text);
        is("fault() of " + text, x.fault(), want);
        boolean goes = want == NONE && !text.isEmpty();
        is("lay() of " + text, x.lay(), goes ? text.charAt(1) - '0' : NO);
    }

    /** All that can be asked of an object without a change, a call for each answer. */
    static List<Integer> everything(CubeChecker x) {
        List<Integer> all = new ArrayList<>();
        for (int what = 0; what < 9; what++) all.add(x.count(what));
        all.add(x.fault());
        for (int e = 0; e < all.get(4); e++) {
            for (int what = 0; what < 7; what++) all.add(x.edge(e, what));
        }
        for (int p = 0; p < all.get(0); p++) {
            all.add(x.looked(p));
            all.add(x.found(p));
            for (int what = 0; what < 3; what++) all.add(x.real(p, what));
            addRow(all, x.state(p, -1), new Asked(x, p)::state);
        }
        addRow(all, x.run(-1), x::run);
        all.add(x.path(-2));
        addRow(all, x.path(-1), x::path);
        for (int g = 0; g < all.get(3); g++) all.add(x.so(g, 0, 1, 2));
        return all;
    }

    private record Asked(CubeChecker x, int p) {
        int state(int i) { return x.state(p, i); }
    }

    private static void addRow(List<Integer> all, int howMany, java.util.function.IntUnaryOperator one) {
        all.add(howMany);
        for (int i = 0; i < howMany; i++) all.add(one.applyAsInt(i));
    }

    /** Undoes what can be, and tells how things were each time. */
    static List<Integer> past(CubeChecker x) {
        List<Integer> all = new ArrayList<>();
        int places = x.count(0);
        int edges = x.count(4);
        for (int left = x.undo(); left >= 0; left = x.undo()) {
            all.add(left);
            for (int p = 0; p < places; p++) all.add(x.looked(p));
            for (int e = 0; e < edges; e++) all.add(x.edge(e, 3));
        }
        return all;
    }

    /**
     * A call that is refused: nothing changes then. So all that can be asked, what can be undone, and
     * what THE TEXT lays, is as in an object of the same make that was not called so.
     */
    void refused(String call, Supplier<CubeChecker> make, ToIntFunction<CubeChecker> refusedCall, int want) {
        CubeChecker x = make.get();
        CubeChecker other = make.get();
        is(call, refusedCall.applyAsInt(x), want);
        List<Integer> now = everything(x);
        same("everything behind " + call, now, everything(other));
        List<Integer> past = past(x);
        same("the past behind " + call, past, past(other));
        is("lay() behind " + call, x.lay(), other.lay());
        List<Integer> then = everything(x);
        same("everything LAID behind " + call, then, everything(other));
        int calls = now.size() + past.size() + then.size() + now.get(8) + 24;
        if (calls > CALLS_MOST) tell("the test of " + call + " makes too many calls: " + calls);
    }
}
