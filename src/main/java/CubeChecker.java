import java.util.Arrays;

/** A checker of small programs; ../shared/DOC.md says what each call answers. */
public final class CubeChecker {
    public static final int BAD = -1, NO = -2, FULL = -3, NONE = -4;

    private static final String TOLD_AT_FIRST =
            "p43;v02;v00;c005;c015;c301;c201;c107;e0190410;e1201201;e2190410;e1320000;";

    private static final int PLACES_MOST = 8;
    private static final int VARIABLES_MOST = 3;
    private static final int COMPARISONS_MOST = 8;
    private static final int EDGES_MOST = 14;
    private static final int LETTERS_MOST = 200;
    private static final int ROUNDS_MOST = 9;
    private static final int CHANGES_MOST = 6;
    private static final int VALUE_MOST = 7;
    /** How many x, y, z there are; they are held as 64 x + 8 y + z. */
    private static final int VALUES = 512;
    private static final int CUBES = 256;

    /** Where the figures of an EDGE stand. */
    private static final int A = 0, B = 1, G = 2, T = 3, S = 4, V = 5, K = 6;
    private static final int EDGE_FIGURES = 7;
    private static final int COMPARISON_FIGURES = 3;
    private static final int ASKS_NOTHING = 9;

    private final Text text = new Text();
    private final Program program = new Program();
    private final Meaning meaning = new Meaning(program);
    private final int[] lookedAt = new int[PLACES_MOST];
    private final History history = new History();

    /** These are made when first asked for, so that a new object takes little room. */
    private RealSearch realSearch;
    private MaySearch maySearch;
    private boolean realSearchIsOld;
    private boolean maySearchIsOld;

    public CubeChecker() {
        for (int i = 0; i < TOLD_AT_FIRST.length(); i++) {
            text.add(TOLD_AT_FIRST.charAt(i));
        }
        takeText();
        text.empty();
    }

    // ---- told

    public int write(int letter) {
        if (letter < 32 || letter > 126) {
            return BAD;
        }
        return text.add((char) letter) ? text.size() : FULL;
    }

    public int wipe() {
        int size = text.size();
        text.empty();
        return size;
    }

    public int fault() {
        return text.firstFault();
    }

    public int lay() {
        return takeText() ? program.places : NO;
    }

    // ---- the program

    public int edge(int e, int what) {
        if (!isEdge(e) || what < 0 || what >= EDGE_FIGURES) {
            return BAD;
        }
        return program.edge[e][what];
    }

    public int turn(int e) {
        if (!isEdge(e)) {
            return BAD;
        }
        int[] figures = program.edge[e];
        if (figures[G] == ASKS_NOTHING) {
            return NO;
        }
        history.keep(lookedAt, program.wants());
        figures[T] = 1 - figures[T];
        forgetSearches();
        return figures[T];
    }

    public int so(int g, int x, int y, int z) {
        if (!isComparison(g) || !areValues(x, y, z)) {
            return BAD;
        }
        return (meaning.sosOf(meaning.valuesOf(x, y, z)) >> g) & 1;
    }

    public int gone(int e, int x, int y, int z) {
        if (!isEdge(e) || !areValues(x, y, z)) {
            return BAD;
        }
        return meaning.after(e, meaning.valuesOf(x, y, z));
    }

    // ---- what is so

    public int real(int p, int what) {
        if (!isPlace(p) || what < 0 || what > 2) {
            return BAD;
        }
        RealSearch search = newestReal();
        if (what == 0) {
            return search.distanceOf(p);
        }
        return what == 1 ? search.valuesAt(p) : search.holdsAt(p);
    }

    public int run(int i) {
        if (i < -1) {
            return BAD;
        }
        RealSearch search = newestReal();
        int length = search.distanceOf(program.trap);
        if (i == -1 || length == NONE) {
            return length;
        }
        return i < length ? search.edgeOfRun(i) : NONE;
    }

    // ---- what may be

    public int look(int p, int g, int is) {
        if (!isPlace(p) || !isComparison(g) || is < 0 || is > 1) {
            return BAD;
        }
        if (((lookedAt[p] >> g) & 1) == is) {
            return NO;
        }
        history.keep(lookedAt, program.wants());
        lookedAt[p] ^= 1 << g;
        maySearchIsOld = true;
        return Integer.bitCount(lookedAt[p]);
    }

    public int looked(int p) {
        return isPlace(p) ? lookedAt[p] : BAD;
    }

    public int may(int e, int cube, int other) {
        if (!isEdge(e) || !isCube(cube) || !isCube(other)) {
            return BAD;
        }
        return newestMay().becomes(e, cube, other) ? 1 : 0;
    }

    public int state(int p, int i) {
        if (!isPlace(p) || i < -1) {
            return BAD;
        }
        MaySearch search = newestMay();
        return i == -1 ? search.statesOf(p) : search.cubeOf(p, i);
    }

    public int found(int p) {
        return isPlace(p) ? newestMay().foundAt(p) : BAD;
    }

    public int path(int i) {
        if (i < -2) {
            return BAD;
        }
        MaySearch search = newestMay();
        if (search.isSafe()) {
            return NONE;
        }
        Way way = search.way();
        if (i == -2) {
            return way.far();
        }
        if (i == -1) {
            return way.length();
        }
        return i < way.length() ? way.edgeAt(i) : NONE;
    }

    // ---- mended

    public int mend() {
        MaySearch search = newestMay();
        int set = setThatMends(search);
        if (set < 0) {
            return set;
        }
        history.keep(lookedAt, program.wants());
        lookOnPath(search, set);
        return set;
    }

    public int check(int n) {
        if (n < 1 || n > ROUNDS_MOST) {
            return BAD;
        }
        history.keep(lookedAt, program.wants());
        MaySearch search = newestMay();
        for (int round = 0; round < n; round++) {
            int set = setThatMends(search);
            if (set == NONE) {
                return 3;
            }
            if (set == NO) {
                break;
            }
            lookOnPath(search, set);
            search = newestMay();
        }
        if (search.isSafe()) {
            return 0;
        }
        return search.way().isReal() ? 1 : 2;
    }

    public int undo() {
        if (history.size() == 0) {
            return NO;
        }
        int wants = history.takeBack(lookedAt);
        maySearchIsOld = true;
        if (wants != program.wants()) {
            program.setWants(wants);
            forgetSearches();
        }
        return history.size();
    }

    public int count(int what) {
        switch (what) {
            case 0: return program.places;
            case 1: return program.trap;
            case 2: return program.variables;
            case 3: return program.comparisons;
            case 4: return program.edges;
            case 5: return lookedAtInAll();
            case 6: return newestMay().states();
            case 7: return history.size();
            case 8: return text.size();
            default: return BAD;
        }
    }

    private boolean isPlace(int p) {
        return p >= 0 && p < program.places;
    }

    private boolean isComparison(int g) {
        return g >= 0 && g < program.comparisons;
    }

    private boolean isEdge(int e) {
        return e >= 0 && e < program.edges;
    }

    private static boolean isCube(int cube) {
        return cube >= 0 && cube < CUBES;
    }

    private static boolean areValues(int x, int y, int z) {
        return isValue(x) && isValue(y) && isValue(z);
    }

    private static boolean isValue(int value) {
        return value >= 0 && value <= VALUE_MOST;
    }

    private boolean takeText() {
        if (text.firstFault() != NONE || text.program().places == 0) {
            return false;
        }
        program.become(text.program());
        meaning.learn();
        Arrays.fill(lookedAt, 0);
        history.empty();
        if (maySearch != null) {
            maySearch.takeProgram();
        }
        forgetSearches();
        return true;
    }

    private void forgetSearches() {
        realSearchIsOld = true;
        maySearchIsOld = true;
    }

    private RealSearch newestReal() {
        if (realSearch == null) {
            realSearch = new RealSearch(program, meaning);
        }
        if (realSearchIsOld) {
            realSearch.search();
            realSearchIsOld = false;
        }
        return realSearch;
    }

    private MaySearch newestMay() {
        if (maySearch == null) {
            Leaps leaps = new Leaps(program, meaning);
            Way way = new Way(program, meaning, leaps, lookedAt);
            maySearch = new MaySearch(program, leaps, way, lookedAt);
            maySearch.takeProgram();
        }
        if (maySearchIsOld) {
            maySearch.search();
            maySearchIsOld = false;
        }
        return maySearch;
    }

    /** The set by which THE PATH is MENDED, or NO or NONE as mend() has it. */
    private static int setThatMends(MaySearch search) {
        if (search.isSafe() || search.way().isReal()) {
            return NO;
        }
        return search.way().leastSetThatEnds();
    }

    private void lookOnPath(MaySearch search, int set) {
        int places = search.way().places();
        for (int p = 0; p < program.places; p++) {
            if (((places >> p) & 1) == 1) {
                lookedAt[p] |= set;
            }
        }
        maySearchIsOld = true;
    }

    private int lookedAtInAll() {
        int sum = 0;
        for (int p = 0; p < program.places; p++) {
            sum += Integer.bitCount(lookedAt[p]);
        }
        return sum;
    }

    /** A set of numbers from 0 on. */
    private static final class NumberSet {
        private final int[] words;

        /** For numbers below a multiple of 32. */
        NumberSet(int numbers) {
            words = new int[Math.max(numbers, 0) / 32];
        }

        void empty() {
            Arrays.fill(words, 0);
        }

        boolean has(int number) {
            return ((words[number >> 5] >> (number & 31)) & 1) == 1;
        }

        /** Says whether the number is new. */
        boolean add(int number) {
            int before = words[number >> 5];
            words[number >> 5] = before | 1 << (number & 31);
            return words[number >> 5] != before;
        }
    }

    /** What a TEXT tells. */
    private static final class Program {
        int places;
        int trap;
        int variables;
        int comparisons;
        int edges;
        final int[] low = new int[VARIABLES_MOST];
        final int[] high = new int[VARIABLES_MOST];
        final int[][] comparison = new int[COMPARISONS_MOST][COMPARISON_FIGURES];
        final int[][] edge = new int[EDGES_MOST][EDGE_FIGURES];

        void empty() {
            places = 0;
            trap = 0;
            variables = 0;
            comparisons = 0;
            edges = 0;
        }

        void become(Program other) {
            places = other.places;
            trap = other.trap;
            variables = other.variables;
            comparisons = other.comparisons;
            edges = other.edges;
            System.arraycopy(other.low, 0, low, 0, VARIABLES_MOST);
            System.arraycopy(other.high, 0, high, 0, VARIABLES_MOST);
            for (int g = 0; g < COMPARISONS_MOST; g++) {
                System.arraycopy(other.comparison[g], 0, comparison[g], 0, COMPARISON_FIGURES);
            }
            for (int e = 0; e < EDGES_MOST; e++) {
                System.arraycopy(other.edge[e], 0, edge[e], 0, EDGE_FIGURES);
            }
        }

        /** T of all EDGES, as bits. */
        int wants() {
            int bits = 0;
            for (int e = 0; e < edges; e++) {
                bits |= edge[e][T] << e;
            }
            return bits;
        }

        void setWants(int bits) {
            for (int e = 0; e < edges; e++) {
                edge[e][T] = (bits >> e) & 1;
            }
        }
    }

    /** THE TEXT, and the reading of it into a Program of its own. */
    private static final class Text {
        private final char[] letters = new char[LETTERS_MOST];
        private int length;
        private final Program told = new Program();
        private final int[] figures = new int[EDGE_FIGURES];

        int size() {
            return length;
        }

        void empty() {
            length = 0;
        }

        /** Says whether there was room. */
        boolean add(char letter) {
            if (length >= LETTERS_MOST) {
                return false;
            }
            letters[length] = letter;
            length++;
            return true;
        }

        /** What was told up to the FAULT that was found last. */
        Program program() {
            return told;
        }

        int firstFault() {
            told.empty();
            int at = 0;
            for (int items = 0; items < LETTERS_MOST && at < length; items++) {
                int figuresDue = figuresBehind(letters[at]);
                if (figuresDue == 0 || !takeFigures(at + 1, figuresDue) || !tell(letters[at])) {
                    return at;
                }
                at += figuresDue + 2;
            }
            return NONE;
        }

        /** 0 behind a letter that begins no ITEM. */
        private static int figuresBehind(char letter) {
            switch (letter) {
                case 'p':
                case 'v': return 2;
                case 'c': return COMPARISON_FIGURES;
                case 'e': return EDGE_FIGURES;
                default: return 0;
            }
        }

        private boolean takeFigures(int from, int howMany) {
            if (from + howMany >= length || letters[from + howMany] != ';') {
                return false;
            }
            for (int i = 0; i < howMany; i++) {
                char letter = letters[from + i];
                if (letter < '0' || letter > '9') {
                    return false;
                }
                figures[i] = letter - '0';
            }
            return true;
        }

        private boolean tell(char letter) {
            if (letter == 'p') {
                return tellPlaces();
            }
            if (told.places == 0) {
                return false;
            }
            if (letter == 'v') {
                return tellVariable();
            }
            return letter == 'c' ? tellComparison() : tellEdge();
        }

        private boolean tellPlaces() {
            int places = figures[0];
            if (told.places != 0 || places < 2 || places > PLACES_MOST || figures[1] >= places) {
                return false;
            }
            told.places = places;
            told.trap = figures[1];
            return true;
        }

        private boolean tellVariable() {
            int next = told.variables;
            if (next >= VARIABLES_MOST || figures[0] > figures[1] || figures[1] > VALUE_MOST) {
                return false;
            }
            told.low[next] = figures[0];
            told.high[next] = figures[1];
            told.variables++;
            return true;
        }

        private boolean tellComparison() {
            int next = told.comparisons;
            int kind = figures[0];
            if (next >= COMPARISONS_MOST || kind > 4 || !isVariable(figures[1])) {
                return false;
            }
            if (kind >= 2 && !isVariable(figures[2])) {
                return false;
            }
            System.arraycopy(figures, 0, told.comparison[next], 0, COMPARISON_FIGURES);
            told.comparisons++;
            return true;
        }

        private boolean tellEdge() {
            int next = told.edges;
            if (next >= EDGES_MOST || !edgeJoinsAndAsksWell() || !edgeDoesWell()) {
                return false;
            }
            System.arraycopy(figures, 0, told.edge[next], 0, EDGE_FIGURES);
            told.edges++;
            return true;
        }

        private boolean edgeJoinsAndAsksWell() {
            return figures[A] < told.places && figures[B] < told.places && figures[T] <= 1
                    && (figures[G] == ASKS_NOTHING || figures[G] < told.comparisons);
        }

        private boolean edgeDoesWell() {
            switch (figures[S]) {
                case 0: return true;
                case 1: return isVariable(figures[V]) && figures[K] <= VALUE_MOST;
                case 2:
                case 3: return isVariable(figures[V]);
                case 4:
                case 5: return isVariable(figures[V]) && isVariable(figures[K]);
                default: return false;
            }
        }

        private boolean isVariable(int figure) {
            return figure < told.variables;
        }
    }

    /** What COMPARISONS and EDGES of a Program mean for values; VARIABLES that there are not are 0. */
    private static final class Meaning {
        private final Program program;
        private final int[] sos = new int[VALUES];
        private final int[] first = new int[VALUES];
        private int firsts;
        private int size;
        private int gap;

        Meaning(Program program) {
            this.program = program;
        }

        void learn() {
            size = 1 << (3 * program.variables);
            gap = VALUES >> (3 * program.variables);
            firsts = 0;
            for (int i = 0; i < size; i++) {
                int values = valuesAt(i);
                sos[values] = findSos(values);
                if (areFirst(values)) {
                    first[firsts] = values;
                    firsts++;
                }
            }
        }

        /** How many values there are in all. */
        int size() {
            return size;
        }

        int valuesAt(int i) {
            return i * gap;
        }

        int valuesOf(int x, int y, int z) {
            return (64 * x + 8 * y + z) & -gap;
        }

        /** How many first values there are. */
        int firsts() {
            return firsts;
        }

        int firstAt(int i) {
            return first[i];
        }

        /** All COMPARISONS that are so, as bits. */
        int sosOf(int values) {
            return sos[values];
        }

        /** The values behind an EDGE, or NO if it can not be GONE. */
        int after(int e, int values) {
            int[] figures = program.edge[e];
            if (figures[G] != ASKS_NOTHING && ((sos[values] >> figures[G]) & 1) != figures[T]) {
                return NO;
            }
            if (figures[S] == 0) {
                return values;
            }
            int was = valueOf(values, figures[V]);
            int k = figures[K];
            int becomes;
            switch (figures[S]) {
                case 1: becomes = k; break;
                case 2: becomes = was + k; break;
                case 3: becomes = was - k; break;
                case 4: becomes = valueOf(values, k); break;
                default: becomes = was + valueOf(values, k); break;
            }
            if (becomes < 0 || becomes > VALUE_MOST) {
                return NO;
            }
            return values + ((becomes - was) << (6 - 3 * figures[V]));
        }

        private boolean areFirst(int values) {
            for (int v = 0; v < program.variables; v++) {
                int value = valueOf(values, v);
                if (value < program.low[v] || value > program.high[v]) {
                    return false;
                }
            }
            return true;
        }

        private int findSos(int values) {
            int bits = 0;
            for (int g = 0; g < program.comparisons; g++) {
                if (isSo(program.comparison[g], values)) {
                    bits |= 1 << g;
                }
            }
            return bits;
        }

        private static boolean isSo(int[] figures, int values) {
            int value = valueOf(values, figures[1]);
            int other = figures[2];
            switch (figures[0]) {
                case 0: return value < other;
                case 1: return value == other;
                case 2: return value < valueOf(values, other);
                case 3: return value == valueOf(values, other);
                default: return value + valueOf(values, other) < 8;
            }
        }

        private static int valueOf(int values, int variable) {
            return (values >> (6 - 3 * variable)) & VALUE_MOST;
        }
    }

    /** What RUNS come to. */
    private static final class RealSearch {
        private static final int NODES = PLACES_MOST * VALUES;

        private final Program program;
        private final Meaning meaning;
        /** PLACE * VALUES + values, in the order in which they come. */
        private final int[] node = new int[NODES];
        /** The start of the group that it came from, * 16 + the EDGE; -1 for first values. */
        private final int[] from = new int[NODES];
        private final NumberSet seen = new NumberSet(NODES);
        private final int[] distance = new int[PLACES_MOST];
        private final int[] realValues = new int[PLACES_MOST];
        private final int[] holds = new int[PLACES_MOST];
        private int came;
        private int endOfRun;

        RealSearch(Program program, Meaning meaning) {
            this.program = program;
            this.meaning = meaning;
        }

        /** NONE if it is not REACHED. */
        int distanceOf(int p) {
            return distance[p];
        }

        int valuesAt(int p) {
            return realValues[p];
        }

        int holdsAt(int p) {
            return holds[p];
        }

        /** The i-th EDGE of THE RUN, which has more than i. */
        int edgeOfRun(int i) {
            int at = endOfRun;
            for (int left = distance[program.trap] - 1; left > i; left--) {
                at = from[at] >> 4;
            }
            return from[at] & 15;
        }

        /**
         * Nodes come in groups, each of those to which the same first row of fewest EDGES leads.
         * A group is gone on from as a whole, so that groups come in the order of their rows:
         * going on node by node, rows by different first values would get mixed.
         */
        void search() {
            empty();
            for (int i = 0; i < meaning.firsts(); i++) {
                add(0, meaning.firstAt(i), -1, 0);
            }
            int start = 0;
            int edges = 0;
            int endOfLevel = came;
            for (int groups = 0; groups < NODES && start < came; groups++) {
                if (start >= endOfLevel) {
                    edges++;
                    endOfLevel = came;
                }
                int end = endOfGroup(start);
                goOn(start, end, edges + 1);
                start = end;
            }
        }

        private void empty() {
            seen.empty();
            came = 0;
            endOfRun = 0;
            for (int p = 0; p < PLACES_MOST; p++) {
                distance[p] = NONE;
                realValues[p] = 0;
                holds[p] = (1 << program.comparisons) - 1;
            }
        }

        private int endOfGroup(int start) {
            int end = start + 1;
            while (end < came && from[end] == from[start]) {
                end++;
            }
            return end;
        }

        private void goOn(int start, int end, int edges) {
            int place = node[start] / VALUES;
            for (int e = 0; e < program.edges; e++) {
                if (program.edge[e][A] == place) {
                    goBy(e, start, end, edges);
                }
            }
        }

        private void goBy(int e, int start, int end, int edges) {
            for (int at = start; at < end; at++) {
                int values = meaning.after(e, node[at] % VALUES);
                if (values >= 0) {
                    add(program.edge[e][B], values, start * 16 + e, edges);
                }
            }
        }

        private void add(int place, int values, int cameFrom, int edges) {
            int which = place * VALUES + values;
            if (!seen.add(which)) {
                return;
            }
            if (distance[place] == NONE) {
                distance[place] = edges;
                if (place == program.trap) {
                    endOfRun = came;
                }
            }
            node[came] = which;
            from[came] = cameFrom;
            came++;
            realValues[place]++;
            holds[place] &= meaning.sosOf(values);
        }
    }

    /**
     * Which sets of COMPARISONS that are so can become which, by each EDGE. CUBES are parts of
     * these sets, so this serves whatever is LOOKED AT, and is far less than all values.
     */
    private static final class Leaps {
        private static final int NEVER = -1;

        private final Program program;
        private final Meaning meaning;
        /** For each EDGE: the set ahead * CUBES + the set behind, the sets ahead rising. */
        private final int[][] leap = new int[EDGES_MOST][VALUES];
        private final int[] leaps = new int[EDGES_MOST];
        /** T with which the leaps of an EDGE were found. */
        private final int[] foundFor = new int[EDGES_MOST];
        /** All values, by the sets that they have. */
        private final int[] ordered = new int[VALUES];
        private final int[] start = new int[CUBES + 1];
        private final NumberSet first = new NumberSet(CUBES);
        private final NumberSet behind = new NumberSet(CUBES);

        Leaps(Program program, Meaning meaning) {
            this.program = program;
            this.meaning = meaning;
        }

        void takeProgram() {
            Arrays.fill(foundFor, NEVER);
            orderValues();
            first.empty();
            for (int i = 0; i < meaning.firsts(); i++) {
                first.add(meaning.sosOf(meaning.firstAt(i)));
            }
        }

        /** Finds anew what is old behind a turn. */
        void renew() {
            for (int e = 0; e < program.edges; e++) {
                if (foundFor[e] != program.edge[e][T]) {
                    foundFor[e] = program.edge[e][T];
                    find(e);
                }
            }
        }

        /** Puts the CUBES that first values have at PLACE 0, if it is looked at so. */
        void putFirstCubes(int looks, NumberSet cubes) {
            cubes.empty();
            for (int set = 0; set < CUBES; set++) {
                if (first.has(set)) {
                    cubes.add(set & looks);
                }
            }
        }

        /** Puts the CUBES that some MAY become, if PLACES are looked at so; says whether there is one. */
        boolean putNextCubes(int e, int[] looks, NumberSet now, NumberSet then) {
            int looksAhead = looks[program.edge[e][A]];
            int looksBehind = looks[program.edge[e][B]];
            boolean some = false;
            then.empty();
            for (int i = 0; i < leaps[e]; i++) {
                if (now.has(leap[e][i] / CUBES & looksAhead)) {
                    then.add(leap[e][i] % CUBES & looksBehind);
                    some = true;
                }
            }
            return some;
        }

        private void orderValues() {
            Arrays.fill(start, 0);
            for (int i = 0; i < meaning.size(); i++) {
                start[meaning.sosOf(meaning.valuesAt(i)) + 1]++;
            }
            for (int set = 0; set < CUBES; set++) {
                start[set + 1] += start[set];
            }
            for (int i = 0; i < meaning.size(); i++) {
                int values = meaning.valuesAt(i);
                int set = meaning.sosOf(values);
                ordered[start[set]] = values;
                start[set]++;
            }
        }

        private void find(int e) {
            int found = 0;
            int ahead = -1;
            for (int i = 0; i < meaning.size(); i++) {
                int set = meaning.sosOf(ordered[i]);
                if (set != ahead) {
                    ahead = set;
                    behind.empty();
                }
                int values = meaning.after(e, ordered[i]);
                if (values >= 0 && behind.add(meaning.sosOf(values))) {
                    leap[e][found] = ahead * CUBES + meaning.sosOf(values);
                    found++;
                }
            }
            leaps[e] = found;
        }
    }

    /** STATES that come. */
    private static final class MaySearch {
        private static final int STATES = PLACES_MOST * CUBES;

        private final Program program;
        private final Leaps leaps;
        private final Way way;
        private final int[] lookedAt;
        /** PLACE * CUBES + CUBE, in the order in which they come. */
        private final int[] node = new int[STATES];
        /** The one that it came from, * 16 + the EDGE; -1 for those of first values. */
        private final int[] from = new int[STATES];
        private final NumberSet seen = new NumberSet(STATES);
        private final NumberSet now = new NumberSet(CUBES);
        private final NumberSet then = new NumberSet(CUBES);
        private int came;
        private int firstOfTrap;

        MaySearch(Program program, Leaps leaps, Way way, int[] lookedAt) {
            this.program = program;
            this.leaps = leaps;
            this.way = way;
            this.lookedAt = lookedAt;
        }

        void takeProgram() {
            leaps.takeProgram();
        }

        void search() {
            leaps.renew();
            seen.empty();
            came = 0;
            firstOfTrap = NONE;
            leaps.putFirstCubes(lookedAt[0], then);
            addAll(0, -1);
            for (int at = 0; at < STATES && at < came; at++) {
                goOn(at);
            }
            tracePath();
        }

        int states() {
            return came;
        }

        int statesOf(int p) {
            int states = 0;
            for (int at = 0; at < came; at++) {
                if (node[at] / CUBES == p) {
                    states++;
                }
            }
            return states;
        }

        /** The i-th lowest CUBE that comes at a PLACE, or NONE. */
        int cubeOf(int p, int i) {
            int lower = 0;
            for (int cube = 0; cube < CUBES; cube++) {
                if (seen.has(p * CUBES + cube)) {
                    if (lower == i) {
                        return cube;
                    }
                    lower++;
                }
            }
            return NONE;
        }

        int foundAt(int p) {
            int found = lookedAt[p];
            for (int at = 0; at < came; at++) {
                if (node[at] / CUBES == p) {
                    found &= node[at] % CUBES;
                }
            }
            return found;
        }

        boolean becomes(int e, int cube, int other) {
            now.empty();
            now.add(cube);
            return leaps.putNextCubes(e, lookedAt, now, then) && then.has(other);
        }

        boolean isSafe() {
            return firstOfTrap == NONE;
        }

        /** THE PATH; not if it is SAFE. */
        Way way() {
            return way;
        }

        private void goOn(int at) {
            int place = node[at] / CUBES;
            now.empty();
            now.add(node[at] % CUBES);
            for (int e = 0; e < program.edges; e++) {
                if (program.edge[e][A] == place && leaps.putNextCubes(e, lookedAt, now, then)) {
                    addAll(program.edge[e][B], at * 16 + e);
                }
            }
        }

        private void addAll(int place, int cameFrom) {
            int looks = lookedAt[place];
            int cube = 0;
            for (int parts = 0; parts < 1 << Integer.bitCount(looks); parts++) {
                if (then.has(cube) && seen.add(place * CUBES + cube)) {
                    add(place, cube, cameFrom);
                }
                // The next higher number that has no bits but those of looks.
                cube = (cube - looks) & looks;
            }
        }

        private void add(int place, int cube, int cameFrom) {
            if (place == program.trap && firstOfTrap == NONE) {
                firstOfTrap = came;
            }
            node[came] = place * CUBES + cube;
            from[came] = cameFrom;
            came++;
        }

        private void tracePath() {
            way.empty();
            int at = firstOfTrap;
            for (int edges = 0; edges < STATES && at >= 0 && from[at] >= 0; edges++) {
                way.putAhead(from[at] & 15);
                at = from[at] >> 4;
            }
        }
    }

    /** A row of EDGES from PLACE 0: how far it can really be gone, and what makes an end of it. */
    private static final class Way {
        private static final int EDGES = MaySearch.STATES;

        private final Program program;
        private final Meaning meaning;
        private final Leaps leaps;
        private final int[] lookedAt;
        /** The last one first. */
        private final int[] row = new int[EDGES];
        private int length;
        private final int[] looksThen = new int[PLACES_MOST];
        private final NumberSet someCubes = new NumberSet(CUBES);
        private final NumberSet otherCubes = new NumberSet(CUBES);
        private final int[] someValues = new int[VALUES];
        private final int[] otherValues = new int[VALUES];
        private final NumberSet listed = new NumberSet(VALUES);

        Way(Program program, Meaning meaning, Leaps leaps, int[] lookedAt) {
            this.program = program;
            this.meaning = meaning;
            this.leaps = leaps;
            this.lookedAt = lookedAt;
        }

        void empty() {
            length = 0;
        }

        void putAhead(int e) {
            if (length < EDGES) {
                row[length] = e;
                length++;
            }
        }

        int length() {
            return length;
        }

        /** The i-th EDGE, if there are more than i. */
        int edgeAt(int i) {
            return row[length - 1 - i];
        }

        boolean isReal() {
            return far() == length;
        }

        int far() {
            int[] now = someValues;
            int[] then = otherValues;
            int size = listFirstValues(now);
            for (int i = 0; i < length; i++) {
                size = listAfter(edgeAt(i), now, size, then);
                if (size == 0) {
                    return i;
                }
                int[] swapped = now;
                now = then;
                then = swapped;
            }
            return length;
        }

        /** PLACES that it comes by, as bits; with the first and the last one. */
        int places() {
            int places = 1;
            for (int i = 0; i < length; i++) {
                places |= 1 << program.edge[row[i]][B];
            }
            return places;
        }

        /** NONE if no set of one or two does. */
        int leastSetThatEnds() {
            int places = places();
            for (int g = 0; g < program.comparisons; g++) {
                if (isEndedBy(1 << g, places)) {
                    return 1 << g;
                }
            }
            // By the higher one first: so pairs rise as bits.
            for (int higher = 1; higher < program.comparisons; higher++) {
                for (int lower = 0; lower < higher; lower++) {
                    int set = 1 << higher | 1 << lower;
                    if (isEndedBy(set, places)) {
                        return set;
                    }
                }
            }
            return NONE;
        }

        private int listFirstValues(int[] list) {
            for (int i = 0; i < meaning.firsts(); i++) {
                list[i] = meaning.firstAt(i);
            }
            return meaning.firsts();
        }

        private int listAfter(int e, int[] now, int size, int[] then) {
            int sizeThen = 0;
            listed.empty();
            for (int i = 0; i < size; i++) {
                int values = meaning.after(e, now[i]);
                if (values >= 0 && listed.add(values)) {
                    then[sizeThen] = values;
                    sizeThen++;
                }
            }
            return sizeThen;
        }

        private boolean isEndedBy(int set, int places) {
            for (int p = 0; p < program.places; p++) {
                looksThen[p] = lookedAt[p] | (((places >> p) & 1) == 1 ? set : 0);
            }
            NumberSet now = someCubes;
            NumberSet then = otherCubes;
            leaps.putFirstCubes(looksThen[0], now);
            for (int i = 0; i < length; i++) {
                if (!leaps.putNextCubes(edgeAt(i), looksThen, now, then)) {
                    return true;
                }
                NumberSet swapped = now;
                now = then;
                then = swapped;
            }
            return false;
        }
    }

    /** How things were ahead of the latest changes. */
    private static final class History {
        private final int[][] lookedAt = new int[CHANGES_MOST][PLACES_MOST];
        private final int[] wants = new int[CHANGES_MOST];
        private int kept;
        private int next;

        int size() {
            return kept;
        }

        void empty() {
            kept = 0;
        }

        void keep(int[] looks, int wantsOfEdges) {
            System.arraycopy(looks, 0, lookedAt[next], 0, PLACES_MOST);
            wants[next] = wantsOfEdges;
            next = (next + 1) % CHANGES_MOST;
            kept = Math.min(kept + 1, CHANGES_MOST);
        }

        /** Puts back what was looked at, and answers T of all EDGES; only if something is kept. */
        int takeBack(int[] looks) {
            next = (next + CHANGES_MOST - 1) % CHANGES_MOST;
            kept--;
            System.arraycopy(lookedAt[next], 0, looks, 0, PLACES_MOST);
            return wants[next];
        }
    }
}
