import java.util.ArrayDeque;
import java.util.ArrayList;
import java.util.Arrays;
import java.util.Collections;
import java.util.HashMap;
import java.util.HashSet;
import java.util.List;
import java.util.Map;
import java.util.Set;
import java.util.TreeSet;
import java.util.regex.Matcher;
import java.util.regex.Pattern;

/**
 * Plays many runs of calls on CubeChecker and on a slow model that follows the document word by
 * word, and tells each answer in which they differ. The runs are the same each time.
 */
public final class OracleTest {
    private static final int BAD = -1, NO = -2, FULL = -3, NONE = -4;
    private static final String AT_FIRST =
            "p43;v02;v00;c005;c015;c301;c201;c107;e0190410;e1201201;e2190410;e1320000;";

    /** A program as it is told, with T as it is now. */
    private static final class Told {
        int places, trap;
        final List<int[]> variables = new ArrayList<>();
        final List<int[]> comparisons = new ArrayList<>();
        final List<int[]> edges = new ArrayList<>();
    }

    private record Change(List<Integer> looked, List<Integer> wants) { }

    private record State(int place, int cube) { }

    private record Spot(int place, List<Integer> values) { }

    private static final class Model {
        String text = "";
        Told told;
        List<Integer> looked = new ArrayList<>();
        final ArrayDeque<Change> changes = new ArrayDeque<>();

        Model() {
            text = AT_FIRST;
            lay();
            text = "";
        }

        // -- the text

        int write(int letter) {
            if (letter < 32 || letter > 126) return BAD;
            if (text.length() == 200) return FULL;
            text += (char) letter;
            return text.length();
        }

        int wipe() {
            int length = text.length();
            text = "";
            return length;
        }

        /** Fills what is told; answers where the first item is that is not so. */
        int read(Told into) {
            Pattern form = Pattern.compile("p\\d\\d;|v\\d\\d;|c\\d\\d\\d;|e\\d\\d\\d\\d\\d\\d\\d;");
            int at = 0;
            while (at < text.length()) {
                Matcher item = form.matcher(text).region(at, text.length());
                if (!item.lookingAt()) return at;
                String found = item.group();
                int[] f = new int[found.length() - 2];
                for (int i = 0; i < f.length; i++) f[i] = found.charAt(i + 1) - '0';
                if ((found.charAt(0) == 'p') != (at == 0)) return at;
                if (!fits(found.charAt(0), f, into)) return at;
                at += found.length();
            }
            return NONE;
        }

        boolean fits(char letter, int[] f, Told into) {
            int vs = into.variables.size();
            switch (letter) {
                case 'p':
                    if (f[0] < 2 || f[0] > 8 || f[1] > f[0] - 1) return false;
                    into.places = f[0];
                    into.trap = f[1];
                    return true;
                case 'v':
                    if (vs == 3 || f[0] > 7 || f[1] > 7 || f[0] > f[1]) return false;
                    return into.variables.add(f);
                case 'c':
                    if (into.comparisons.size() == 8 || f[0] > 4 || f[1] >= vs) return false;
                    if ((f[0] == 2 || f[0] == 3 || f[0] == 4) && f[2] >= vs) return false;
                    return into.comparisons.add(f);
                default:
                    if (into.edges.size() == 14) return false;
                    if (f[0] >= into.places || f[1] >= into.places) return false;
                    if (f[2] != 9 && f[2] >= into.comparisons.size()) return false;
                    if (f[3] != 0 && f[3] != 1) return false;
                    if (f[4] > 5) return false;
                    if (f[4] != 0 && f[5] >= vs) return false;
                    if (f[4] == 1 && f[6] > 7) return false;
                    if ((f[4] == 4 || f[4] == 5) && f[6] >= vs) return false;
                    return into.edges.add(f);
            }
        }

        int fault() { return read(new Told()); }

        int lay() {
            Told next = new Told();
            if (read(next) != NONE || next.places == 0) return NO;
            told = next;
            looked = new ArrayList<>(Collections.nCopies(told.places, 0));
            changes.clear();
            return told.places;
        }

        // -- the program

        boolean noPlace(int p) { return p < 0 || p >= told.places; }
        boolean noEdge(int e) { return e < 0 || e >= told.edges.size(); }
        boolean noComparison(int g) { return g < 0 || g >= told.comparisons.size(); }

        int edge(int e, int what) {
            return noEdge(e) || what < 0 || what > 6 ? BAD : told.edges.get(e)[what];
        }

        int turn(int e) {
            if (noEdge(e)) return BAD;
            int[] f = told.edges.get(e);
            if (f[2] == 9) return NO;
            keep();
            f[3] = f[3] == 0 ? 1 : 0;
            return f[3];
        }

        boolean isSo(int g, List<Integer> values) {
            int[] f = told.comparisons.get(g);
            int v = values.get(f[1]);
            switch (f[0]) {
                case 0: return v < f[2];
                case 1: return v == f[2];
                case 2: return v < values.get(f[2]);
                case 3: return v == values.get(f[2]).intValue();
                default: return v + values.get(f[2]) < 8;
            }
        }

        /** Null if it can not be gone. */
        List<Integer> gone(int e, List<Integer> values) {
            int[] f = told.edges.get(e);
            if (f[2] != 9 && isSo(f[2], values) != (f[3] == 1)) return null;
            List<Integer> then = new ArrayList<>(values);
            if (f[4] == 1) then.set(f[5], f[6]);
            if (f[4] == 2) then.set(f[5], values.get(f[5]) + f[6]);
            if (f[4] == 3) then.set(f[5], values.get(f[5]) - f[6]);
            if (f[4] == 4) then.set(f[5], values.get(f[6]));
            if (f[4] == 5) then.set(f[5], values.get(f[5]) + values.get(f[6]));
            for (int v : then) if (v < 0 || v > 7) return null;
            return then;
        }

        List<Integer> cut(int x, int y, int z) {
            return Arrays.asList(x, y, z).subList(0, told.variables.size());
        }

        static boolean wrongValues(int x, int y, int z) {
            return Math.min(x, Math.min(y, z)) < 0 || Math.max(x, Math.max(y, z)) > 7;
        }

        int so(int g, int x, int y, int z) {
            if (noComparison(g) || wrongValues(x, y, z)) return BAD;
            return isSo(g, cut(x, y, z)) ? 1 : 0;
        }

        int gone(int e, int x, int y, int z) {
            if (noEdge(e) || wrongValues(x, y, z)) return BAD;
            List<Integer> then = gone(e, cut(x, y, z));
            if (then == null) return NO;
            int sum = 0;
            int[] weight = {64, 8, 1};
            for (int i = 0; i < then.size(); i++) sum += weight[i] * then.get(i);
            return sum;
        }

        List<List<Integer>> valuesBetween(boolean first) {
            List<List<Integer>> all = new ArrayList<>();
            all.add(new ArrayList<>());
            for (int[] f : told.variables) {
                List<List<Integer>> more = new ArrayList<>();
                for (List<Integer> some : all) {
                    for (int v = first ? f[0] : 0; v <= (first ? f[1] : 7); v++) {
                        List<Integer> one = new ArrayList<>(some);
                        one.add(v);
                        more.add(one);
                    }
                }
                all = more;
            }
            return all;
        }

        // -- what is so

        Map<Spot, Integer> reached() {
            Map<Spot, Integer> distance = new HashMap<>();
            Set<Spot> now = new HashSet<>();
            for (List<Integer> values : valuesBetween(true)) now.add(new Spot(0, values));
            for (int n = 0; !now.isEmpty(); n++) {
                for (Spot s : now) distance.put(s, n);
                Set<Spot> then = new HashSet<>();
                for (int e = 0; e < told.edges.size(); e++) then.addAll(goneAll(e, now));
                then.removeAll(distance.keySet());
                now = then;
            }
            return distance;
        }

        Set<Spot> goneAll(int e, Set<Spot> spots) {
            Set<Spot> then = new HashSet<>();
            for (Spot s : spots) {
                if (s.place != told.edges.get(e)[0]) continue;
                List<Integer> values = gone(e, s.values);
                if (values != null) then.add(new Spot(told.edges.get(e)[1], values));
            }
            return then;
        }

        int real(int p, int what) {
            if (noPlace(p) || what < 0 || what > 2) return BAD;
            int fewest = NONE, values = 0, holds = (1 << told.comparisons.size()) - 1;
            for (Map.Entry<Spot, Integer> at : reached().entrySet()) {
                if (at.getKey().place != p) continue;
                if (fewest == NONE || at.getValue() < fewest) fewest = at.getValue();
                values++;
                for (int g = 0; g < told.comparisons.size(); g++) {
                    if (!isSo(g, at.getKey().values)) holds &= ~(1 << g);
                }
            }
            return what == 0 ? fewest : what == 1 ? values : holds;
        }

        /** Null if there is none. */
        List<Integer> theRun() {
            int length = real(told.trap, 0);
            if (length == NONE) return null;
            List<Integer> row = new ArrayList<>();
            Set<Spot> now = new HashSet<>();
            for (List<Integer> values : valuesBetween(true)) now.add(new Spot(0, values));
            while (row.size() < length) {
                for (int e = 0; e < told.edges.size(); e++) {
                    Set<Spot> then = goneAll(e, now);
                    if (trapIsIn(then, length - row.size() - 1)) {
                        now = then;
                        row.add(e);
                        break;
                    }
                }
            }
            return row;
        }

        boolean trapIsIn(Set<Spot> spots, int edges) {
            Set<Spot> now = spots;
            for (int n = 0; n < edges; n++) {
                Set<Spot> then = new HashSet<>();
                for (int e = 0; e < told.edges.size(); e++) then.addAll(goneAll(e, now));
                now = then;
            }
            for (Spot s : now) if (s.place == told.trap) return true;
            return false;
        }

        int run(int i) {
            if (i < -1) return BAD;
            List<Integer> row = theRun();
            if (row == null) return NONE;
            return i == -1 ? row.size() : i < row.size() ? row.get(i) : NONE;
        }

        // -- what may be

        int look(int p, int g, int is) {
            if (noPlace(p) || noComparison(g) || (is != 0 && is != 1)) return BAD;
            boolean now = (looked.get(p) & 1 << g) != 0;
            if (now == (is == 1)) return NO;
            keep();
            looked.set(p, is == 1 ? looked.get(p) + (1 << g) : looked.get(p) - (1 << g));
            return Integer.bitCount(looked.get(p));
        }

        int looked(int p) { return noPlace(p) ? BAD : looked.get(p); }

        int cube(List<Integer> looks, int place, List<Integer> values) {
            int bits = 0;
            for (int g = 0; g < told.comparisons.size(); g++) {
                if ((looks.get(place) & 1 << g) != 0 && isSo(g, values)) bits |= 1 << g;
            }
            return bits;
        }

        TreeSet<Integer> firstCubes(List<Integer> looks) {
            TreeSet<Integer> cubes = new TreeSet<>();
            for (List<Integer> values : valuesBetween(true)) cubes.add(cube(looks, 0, values));
            return cubes;
        }

        TreeSet<Integer> cubesBehind(List<Integer> looks, int e, Set<Integer> cubes) {
            int[] f = told.edges.get(e);
            TreeSet<Integer> behind = new TreeSet<>();
            for (List<Integer> values : valuesBetween(false)) {
                if (!cubes.contains(cube(looks, f[0], values))) continue;
                List<Integer> then = gone(e, values);
                if (then != null) behind.add(cube(looks, f[1], then));
            }
            return behind;
        }

        int may(int e, int cube, int other) {
            if (noEdge(e) || cube < 0 || cube > 255 || other < 0 || other > 255) return BAD;
            return cubesBehind(looked, e, Set.of(cube)).contains(other) ? 1 : 0;
        }

        /** All states that come; the rows of edges by which they came go into rows. */
        List<State> states(List<List<Integer>> rows) {
            List<State> come = new ArrayList<>();
            for (int cube : firstCubes(looked)) {
                come.add(new State(0, cube));
                rows.add(List.of());
            }
            for (int at = 0; at < come.size(); at++) {
                for (int e = 0; e < told.edges.size(); e++) {
                    if (told.edges.get(e)[0] != come.get(at).place) continue;
                    for (int cube : cubesBehind(looked, e, Set.of(come.get(at).cube))) {
                        State next = new State(told.edges.get(e)[1], cube);
                        if (come.contains(next)) continue;
                        come.add(next);
                        List<Integer> row = new ArrayList<>(rows.get(at));
                        row.add(e);
                        rows.add(row);
                    }
                }
            }
            return come;
        }

        int state(int p, int i) {
            if (noPlace(p) || i < -1) return BAD;
            TreeSet<Integer> cubes = new TreeSet<>();
            for (State s : states(new ArrayList<>())) if (s.place == p) cubes.add(s.cube);
            if (i == -1) return cubes.size();
            return i < cubes.size() ? new ArrayList<>(cubes).get(i) : NONE;
        }

        int found(int p) {
            if (noPlace(p)) return BAD;
            int bits = looked.get(p);
            for (State s : states(new ArrayList<>())) if (s.place == p) bits &= s.cube;
            return bits;
        }

        /** Null if it is safe. */
        List<Integer> thePath() {
            List<List<Integer>> rows = new ArrayList<>();
            List<State> come = states(rows);
            for (int at = 0; at < come.size(); at++) {
                if (come.get(at).place == told.trap) return rows.get(at);
            }
            return null;
        }

        int far(List<Integer> row) {
            for (int n = row.size(); n > 0; n--) {
                Set<List<Integer>> now = new HashSet<>(valuesBetween(true));
                for (int e : row.subList(0, n)) {
                    Set<List<Integer>> then = new HashSet<>();
                    for (List<Integer> values : now) then.add(gone(e, values));
                    then.remove(null);
                    now = then;
                }
                if (!now.isEmpty()) return n;
            }
            return 0;
        }

        int path(int i) {
            if (i < -2) return BAD;
            List<Integer> row = thePath();
            if (row == null) return NONE;
            if (i == -2) return far(row);
            return i == -1 ? row.size() : i < row.size() ? row.get(i) : NONE;
        }

        // -- mended

        List<Integer> looksWith(int set, List<Integer> row) {
            List<Integer> looks = new ArrayList<>(looked);
            looks.set(0, looks.get(0) | set);
            for (int e : row) {
                int b = told.edges.get(e)[1];
                looks.set(b, looks.get(b) | set);
            }
            return looks;
        }

        int mendingSet(List<Integer> row) {
            for (int size = 1; size <= 2; size++) {
                for (int set = 0; set < 1 << told.comparisons.size(); set++) {
                    if (Integer.bitCount(set) != size) continue;
                    List<Integer> looks = looksWith(set, row);
                    TreeSet<Integer> cubes = firstCubes(looks);
                    for (int e : row) cubes = cubesBehind(looks, e, cubes);
                    if (cubes.isEmpty()) return set;
                }
            }
            return NONE;
        }

        int mend() {
            List<Integer> row = thePath();
            if (row == null || far(row) == row.size()) return NO;
            int set = mendingSet(row);
            if (set == NONE) return NONE;
            keep();
            looked = looksWith(set, row);
            return set;
        }

        int check(int n) {
            if (n < 1 || n > 9) return BAD;
            keep();
            for (int round = 0; round < n; round++) {
                List<Integer> row = thePath();
                if (row == null) return 0;
                if (far(row) == row.size()) return 1;
                int set = mendingSet(row);
                if (set == NONE) return 3;
                looked = looksWith(set, row);
            }
            List<Integer> row = thePath();
            return row == null ? 0 : far(row) == row.size() ? 1 : 2;
        }

        void keep() {
            List<Integer> wants = new ArrayList<>();
            for (int[] f : told.edges) wants.add(f[3]);
            changes.addLast(new Change(new ArrayList<>(looked), wants));
            if (changes.size() > 6) changes.removeFirst();
        }

        int undo() {
            if (changes.isEmpty()) return NO;
            Change back = changes.removeLast();
            looked = back.looked;
            for (int e = 0; e < told.edges.size(); e++) told.edges.get(e)[3] = back.wants.get(e);
            return changes.size();
        }

        int count(int what) {
            int sum = 0;
            for (int looks : looked) sum += Integer.bitCount(looks);
            switch (what) {
                case 0: return told.places;
                case 1: return told.trap;
                case 2: return told.variables.size();
                case 3: return told.comparisons.size();
                case 4: return told.edges.size();
                case 5: return sum;
                case 6: return states(new ArrayList<>()).size();
                case 7: return changes.size();
                case 8: return text.length();
                default: return BAD;
            }
        }
    }

    // -- the runs

    private static long seed = 20261117L;

    /** 0 to n - 1, the same row each time. */
    private static int any(int n) {
        seed = seed * 6364136223846793005L + 1442695040888963407L;
        return (int) ((seed >>> 33) % n);
    }

    private static boolean chance(int percent) { return any(100) < percent; }

    /** What sort of programs: any at all, those that ask much and do little, those that count. */
    private static final int ANY = 0, ASKING = 1, COUNTING = 2;

    private static String anyText() {
        StringBuilder text = new StringBuilder();
        int sort = any(3);
        int places = sort == COUNTING ? 2 + any(3) : 2 + any(7);
        int vs = sort != ANY ? 2 + any(2) : any(20) == 0 ? 0 : 1 + any(3);
        int cs = sort != ANY ? 4 + any(5) : vs == 0 ? 0 : any(9);
        int es = sort == COUNTING ? 4 + any(8) : 1 + any(14);
        text.append('p').append(places).append(chance(90) ? places - 1 : any(places)).append(';');
        for (int v = 0; v < vs; v++) {
            int low = sort == ANY ? any(8) : any(2), high = low + any(8 - low);
            if (chance(sort == ASKING ? 0 : 60)) high = low;
            text.append('v').append(low).append(high).append(';');
        }
        for (int c = 0; c < cs; c++) {
            int kind = sort == ASKING ? any(10) % 5 : any(5);
            int w = kind >= 2 ? any(vs) : sort == ANY ? any(10) : 2 + any(6);
            text.append('c').append(kind).append(any(vs)).append(w).append(';');
        }
        for (int e = 0; e < es && text.length() <= 191; e++) {
            text.append(anyEdge(sort, places, vs, cs, e));
        }
        return text.toString();
    }

    /** The first edges make a chain to the last place, so that there is often a path of some length. */
    private static String anyEdge(int sort, int places, int vs, int cs, int e) {
        boolean chain = e < places - 1;
        int from = chain ? e : any(places);
        int to = chain ? e + 1 : chance(70) ? any(places - 1) : any(places);
        if (sort == COUNTING && !chain && chance(50)) to = from;
        int asks = cs == 0 || chance(sort == ANY ? 30 : chain ? 0 : 40) ? 9 : any(cs);
        int does = vs == 0 || sort == ASKING && chance(70) ? 0 : any(6);
        if (sort == COUNTING) does = chain ? 0 : chance(70) ? 2 : any(6);
        int v = does == 0 ? any(10) : any(vs);
        int k = does == 0 ? any(10) : does == 1 ? any(8) : does < 4 ? any(4) : any(vs);
        if (sort == COUNTING && does == 2) k = 1;
        return "e" + from + to + asks + any(2) + does + v + k + ";";
    }

    private static String spoilt(String text) {
        if (text.isEmpty()) return ";";
        StringBuilder other = new StringBuilder(text);
        int at = any(other.length());
        switch (any(4)) {
            case 0: other.deleteCharAt(at); break;
            case 1: other.insert(at, "0123456789;pvce x".charAt(any(17))); break;
            case 2: other.setCharAt(at, "0123456789;pvce~".charAt(any(16))); break;
            default: other.setLength(at); break;
        }
        return other.substring(0, Math.min(200, other.length()));
    }

    private static final int[] tally = new int[40];
    private static int wrong = 0;
    private static final List<String> calls = new ArrayList<>();

    /** What an object answers behind so many calls is free. */
    private static final int CALLS_MOST = 512;
    private static final int CHANGES_MOST = 12;
    private static int made = 0;

    private static void same(String call, int got, int want) {
        calls.add(call);
        made++;
        if (got != want && made <= CALLS_MOST) {
            wrong++;
            if (wrong <= 20) {
                System.out.println("behind " + calls + " answered " + got + ", the model " + want);
            }
        }
    }

    private static void tell(CubeChecker x, Model m, String text) {
        same("wipe()", x.wipe(), m.wipe());
        for (char letter : text.toCharArray()) {
            made++;
            if (x.write(letter) != m.write(letter) && made <= CALLS_MOST) wrong++;
        }
        calls.add("text " + text);
        same("fault()", x.fault(), m.fault());
        same("lay()", x.lay(), m.lay());
    }

    private static void askAll(CubeChecker x, Model m) {
        for (int p = 0; p < m.told.places; p++) {
            for (int what = 0; what <= 2; what++) same("real(" + p + "," + what + ")", x.real(p, what), m.real(p, what));
        }
        int anyPlace = any(11) - 1, anyWhat = any(5) - 1;
        same("real(" + anyPlace + "," + anyWhat + ")", x.real(anyPlace, anyWhat), m.real(anyPlace, anyWhat));
        int length = m.run(-1);
        for (int i = -2; i < length + 2; i++) same("run(" + i + ")", x.run(i), m.run(i));
        tally[30] = Math.max(tally[30], length);
        askMay(x, m);
    }

    private static void askMay(CubeChecker x, Model m) {
        for (int p = 0; p < m.told.places; p++) {
            same("looked(" + p + ")", x.looked(p), m.looked(p));
            same("found(" + p + ")", x.found(p), m.found(p));
            int states = m.state(p, -1);
            tally[31] = Math.max(tally[31], states);
            same("state(" + p + ",-1)", x.state(p, -1), states);
            int i = any(states + 2);
            same("state(" + p + "," + i + ")", x.state(p, i), m.state(p, i));
        }
        int length = m.path(-1);
        tally[32] = Math.max(tally[32], length);
        for (int i = -3; i < length + 2; i++) same("path(" + i + ")", x.path(i), m.path(i));
        for (int what = -1; what <= 9; what++) same("count(" + what + ")", x.count(what), m.count(what));
    }

    private static void askOne(CubeChecker x, Model m) {
        int e = any(16) - 1, a = any(10) - 1, b = any(10) - 1, c = any(10) - 1, g = any(9) - 1;
        switch (any(4)) {
            case 0:
                same("edge(" + e + "," + a + ")", x.edge(e, a), m.edge(e, a));
                break;
            case 1:
                same("so(" + g + "," + a + "," + b + "," + c + ")", x.so(g, a, b, c), m.so(g, a, b, c));
                break;
            case 2:
                same("gone(" + e + "," + a + "," + b + "," + c + ")", x.gone(e, a, b, c), m.gone(e, a, b, c));
                break;
            default:
                int from = e >= 0 && e < m.told.edges.size() ? m.looked(m.told.edges.get(e)[0]) : 255;
                int to = e >= 0 && e < m.told.edges.size() ? m.looked(m.told.edges.get(e)[1]) : 255;
                int cube = chance(90) ? any(256) & from : any(260) - 2;
                int other = chance(90) ? any(256) & to : any(260) - 2;
                int want = m.may(e, cube, other);
                tally[20 + want + 1]++;
                same("may(" + e + "," + cube + "," + other + ")", x.may(e, cube, other), want);
                break;
        }
    }

    private static void change(CubeChecker x, Model m) {
        int e = any(15) - 1, p = any(m.told.places + 1) - 1, g = any(9) - 1, n = any(11), is = chance(70) ? 1 : any(4) - 1;
        int kind = any(100), want;
        if (kind < 15) {
            same("turn(" + e + ")", x.turn(e), m.turn(e));
        } else if (kind < 50) {
            same("look(" + p + "," + g + "," + is + ")", x.look(p, g, is), m.look(p, g, is));
        } else if (kind < 70) {
            want = m.mend();
            same("mend()", x.mend(), want);
            tally[want < 0 ? -want : 4 + Integer.bitCount(want)]++;
        } else if (kind < 80) {
            want = m.check(n);
            same("check(" + n + ")", x.check(n), want);
            tally[11 + want]++;
        } else {
            same("undo()", x.undo(), m.undo());
        }
    }

    private static void lookAtMuch(CubeChecker x, Model m) {
        for (int p = 0; p < m.told.places; p++) {
            for (int g = 0; g < m.told.comparisons.size(); g++) {
                if (chance(60)) same("look(" + p + "," + g + ",1)", x.look(p, g, 1), m.look(p, g, 1));
            }
        }
        askMay(x, m);
    }

    private static void begin() {
        calls.clear();
        made = 0;
    }

    private static void play() {
        begin();
        CubeChecker x = new CubeChecker();
        Model m = new Model();
        int programs = chance(30) ? 2 : 1;
        for (int program = 0; program < programs; program++) {
            String text = anyText();
            if (chance(10)) tell(x, m, spoilt(text));
            if (chance(95)) tell(x, m, text);
            askAll(x, m);
            if (chance(30)) lookAtMuch(x, m);
            int till = program == programs - 1 ? CALLS_MOST : CALLS_MOST / 2;
            for (int i = 0; i < CHANGES_MOST && made < till; i++) {
                change(x, m);
                askOne(x, m);
                if (chance(40)) askMay(x, m);
                if (chance(10)) askAll(x, m);
            }
        }
    }

    public static void main(String[] args) {
        int runs = args.length > 0 ? Integer.parseInt(args[0]) : 150;
        if (args.length > 1) seed = Long.parseLong(args[1]);
        for (int i = 0; i < runs && wrong == 0; i++) play();
        for (int i = 0; i < 2000; i++) {
            begin();
            tell(new CubeChecker(), new Model(), spoilt(chance(50) ? anyText() : spoilt(anyText() + ";")));
        }
        if (args.length > 0) System.out.println(Arrays.toString(tally));
        System.out.println(wrong == 0 ? "CubeChecker answers as the model does" : wrong + " answers differ");
        if (wrong != 0) System.exit(1);
    }
}
