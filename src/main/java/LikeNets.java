import java.util.Arrays;

/**
 * A bench for nets in which what one counts hangs on how far two posts are apart alone.
 * The promises are those of DOC.md; the words of that document are used here as they stand there.
 */
public final class LikeNets {
    public static final int NUMBER = -1;
    public static final int FULL = -2;
    public static final int MISSING = -3;
    public static final int SIZE = -4;
    public static final int STATE = -5;
    public static final int LAW = -6;
    public static final int SPENT = -7;
    public static final int NEVER = -8;

    private static final int SHEET_COUNT = 4;
    private static final int MOST_CELLS = 60;
    private static final int MOST_POSTS = 32;
    private static final int MOST_PAIRS = MOST_POSTS * MOST_POSTS;
    private static final int MOST_LENGTH = 5;
    private static final int TABLE_ROWS = MOST_LENGTH + 1;
    private static final int MOST_TOLD = 20;
    private static final int MOST_TOLD_POSTS = 100000;
    private static final int MOST_WALK = 8;
    private static final int MOST_BOUND_ROADS = 60;
    private static final int MOST_BOUND_FAR = 6;
    private static final int MOST_REACH = 6;
    private static final int MOST_CASES = 20000;
    private static final int NO_ROOT_NUMBER = -1000;
    private static final int NO_ROOT_LAW = -1001;
    private static final int NO_ROOT = -1002;

    private final Sheet[] sheets;
    private final Net now;
    private final Net made;
    private final Net stored;
    private final int[] list;
    private final int[] partner;
    private final Makings makings;
    private final Ways ways;
    private final Likeness likeness;
    private final Told told;
    private final Search search;
    private final Pairs pairs;
    private boolean isStored;

    public LikeNets() {
        sheets = new Sheet[SHEET_COUNT];
        for (int r = 0; r < SHEET_COUNT; r++) {
            sheets[r] = new Sheet();
        }
        now = new Net();
        made = new Net();
        stored = new Net();
        list = new int[MOST_POSTS];
        partner = new int[MOST_POSTS];
        makings = new Makings();
        ways = new Ways();
        likeness = new Likeness();
        told = new Told();
        search = new Search();
        pairs = new Pairs();
    }

    // ---- sheets and roads

    public int sheet(int r, int kind, int n) {
        if (!isSheet(r) || kind < 0 || kind > 2) {
            return NUMBER;
        }
        if (n < 0) {
            return SIZE;
        }
        if (n > MOST_CELLS) {
            return NUMBER;
        }
        sheets[r].lay(kind, n);
        return 1;
    }

    public int cell(int r, int i, int v) {
        if (!isSheet(r)) {
            return NUMBER;
        }
        if (!sheets[r].there) {
            return MISSING;
        }
        if (!sheets[r].has(i)) {
            return NUMBER;
        }
        sheets[r].write(i, v);
        return 1;
    }

    public int lose(int r) {
        if (!isSheet(r)) {
            return NUMBER;
        }
        if (!sheets[r].there) {
            return MISSING;
        }
        sheets[r].there = false;
        return 1;
    }

    public int net(int n) {
        if (n < 0 || n > MOST_POSTS) {
            return NUMBER;
        }
        now.empty(n);
        forget();
        return 1;
    }

    public int road(int p, int q, boolean on) {
        if (!now.mayJoin(p, q)) {
            return NUMBER;
        }
        if (now.areJoined(p, q) == on) {
            return 0;
        }
        if (on) {
            now.join(p, q);
        } else {
            now.part(p, q);
        }
        forget();
        return 1;
    }

    public int load(int r, int i, int m) {
        if (!isSheet(r)) {
            return NUMBER;
        }
        if (!sheets[r].there) {
            return MISSING;
        }
        if (!mayLoad(sheets[r], i, m)) {
            return NUMBER;
        }
        int before = now.roads();
        for (int pair = 0; pair < m; pair++) {
            int at = i + 2 * pair;
            now.join(sheets[r].read(at), sheets[r].read(at + 1));
        }
        forget();
        return now.roads() - before;
    }

    public boolean joined(int p, int q) {
        return now.areJoined(p, q);
    }

    public int build(int kind, int a, int b) {
        if (!Makings.mayBe(kind, a, b)) {
            return NUMBER;
        }
        long size = Makings.size(kind, a, b);
        if (size > MOST_POSTS) {
            return FULL;
        }
        made.empty((int) size);
        makings.lay(made, kind, a, b);
        return adopt();
    }

    // ---- ways

    public int way(int p, int q) {
        if (!now.has(p) || !now.has(q)) {
            return NUMBER;
        }
        measure();
        int steps = ways.between(p, q);
        return steps < 0 ? NEVER : steps;
    }

    public int many(int what) {
        measure();
        switch (what) {
            case 0: return now.size;
            case 1: return now.roads();
            case 2: return ways.pieces();
            case 3: return oneIf(ways.whole);
            case 4: return ways.far;
            case 5: return ways.shortestRing(now);
            case 6: return oneIf(now.isEven());
            case 7: return oneIf(ways.isOfSides(now));
            case 8: return oneIf(ways.isFolded());
            case 9: return oneIf(isLike());
            default: return -1;
        }
    }

    public int clash(int what) {
        if (what != 0 && what != 1) {
            return NUMBER;
        }
        measure();
        if (!ways.whole) {
            return STATE;
        }
        if (isLike()) {
            return NEVER;
        }
        return what == 0 ? likeness.clashFrom : likeness.clashTo;
    }

    public int table(int i, int what) {
        if (what < 0 || what > 3) {
            return NUMBER;
        }
        if (!isLike()) {
            return STATE;
        }
        if (i < 0 || i > ways.far) {
            return NUMBER;
        }
        switch (what) {
            case 0: return likeness.c[i];
            case 1: return likeness.a[i];
            case 2: return likeness.b[i];
            default: return Integer.bitCount(ways.postsAt(0, i));
        }
    }

    public int thirds(int p, int q, int j, int l) {
        if (!now.has(p) || !now.has(q) || j < 0 || l < 0) {
            return NUMBER;
        }
        measure();
        return Integer.bitCount(ways.postsAt(p, j) & ways.postsAt(q, l));
    }

    // ---- the told table

    public int tell(int d) {
        if (d < 1 || d > MOST_LENGTH) {
            return NUMBER;
        }
        told.lay(d);
        return 1;
    }

    public int put(int what, int i, int v) {
        if (what < 0 || what > 1 || v < 0 || v > MOST_TOLD) {
            return NUMBER;
        }
        if (what == 0) {
            return i < 0 || i >= told.length ? NUMBER : told.putOnward(i, v);
        }
        return i < 1 || i > told.length ? NUMBER : told.putBackward(i, v);
    }

    public int take() {
        if (!isLike() || ways.far < 1 || ways.far > MOST_LENGTH || !likeness.isAtMost(ways.far, MOST_TOLD)) {
            return STATE;
        }
        told.lay(ways.far);
        for (int i = 0; i < ways.far; i++) {
            told.putOnward(i, likeness.b[i]);
            told.putBackward(i + 1, likeness.c[i + 1]);
        }
        return told.length;
    }

    public int can() {
        return told.firstBroken();
    }

    public int entry(int i, int what) {
        if (what < 0 || what > 3 || !told.hasRow(i)) {
            return NUMBER;
        }
        if (!told.keepsLawsTo(4)) {
            return LAW;
        }
        switch (what) {
            case 0: return told.c[i];
            case 1: return told.level(i);
            case 2: return told.b[i];
            default: return (int) told.k[i];
        }
    }

    public int posts() {
        return told.keepsLawsTo(4) ? (int) told.total : LAW;
    }

    public int third(int i, int j, int l) {
        if (!told.hasRow(i) || !told.hasRow(j) || !told.hasRow(l)) {
            return NUMBER;
        }
        return told.keepsLawsTo(6) ? (int) told.t[Told.place(i, j, l)] : LAW;
    }

    public int root(int i, int what) {
        if (what != 0 && what != 1) {
            return NO_ROOT_NUMBER;
        }
        if (!told.keepsLawsTo(6)) {
            return NO_ROOT_LAW;
        }
        if (i < 0 || i >= told.rootCount) {
            return NO_ROOT;
        }
        return what == 0 ? told.roots[i] : told.times[i];
    }

    public long walks(int i, int m) {
        if (!told.hasRow(i) || m < 0 || m > MOST_WALK) {
            return NUMBER;
        }
        return told.keepsLawsTo(4) ? told.countWalks(i, m) : LAW;
    }

    public long bound(int k, int d) {
        if (k < 1 || k > MOST_BOUND_ROADS || d < 1 || d > MOST_BOUND_FAR) {
            return NUMBER;
        }
        long sum = 1;
        long layer = k;
        for (int i = 1; i <= d; i++) {
            sum += layer;
            layer *= k - 1;
        }
        return sum;
    }

    // ---- nets made of nets

    public int fold() {
        measure();
        if (!ways.isFolded()) {
            return STATE;
        }
        int count = 0;
        for (int p = 0; p < now.size; p++) {
            int group = ways.farGroup(p);
            if (lowestBit(group) == p) {
                list[count] = group;
                count++;
            }
        }
        made.empty(count);
        for (int i = 0; i < count; i++) {
            int around = now.around(list[i]);
            for (int j = i + 1; j < count; j++) {
                if ((around & list[j]) != 0) {
                    made.join(i, j);
                }
            }
        }
        return adopt();
    }

    public int half() {
        measure();
        if (!ways.whole || !ways.isOfSides(now)) {
            return STATE;
        }
        int count = 0;
        for (int p = 0; p < now.size; p++) {
            if (ways.between(0, p) % 2 == 0) {
                list[count] = p;
                count++;
            }
        }
        made.empty(count);
        for (int i = 0; i < count; i++) {
            for (int j = i + 1; j < count; j++) {
                if (ways.between(list[i], list[j]) == 2) {
                    made.join(i, j);
                }
            }
        }
        return adopt();
    }

    public int twice() {
        int n = now.size;
        if (2 * n > MOST_POSTS) {
            return FULL;
        }
        made.empty(2 * n);
        for (int p = 0; p < n; p++) {
            for (int q = 0; q < n; q++) {
                if (now.areJoined(p, q)) {
                    made.join(p, n + q);
                }
            }
        }
        return adopt();
    }

    public int power(int i) {
        if (i < 1) {
            return NUMBER;
        }
        measure();
        made.empty(now.size);
        for (int p = 0; p < now.size; p++) {
            for (int q = p + 1; q < now.size; q++) {
                if (ways.between(p, q) == i) {
                    made.join(p, q);
                }
            }
        }
        adopt();
        return now.roads();
    }

    public int other() {
        made.empty(now.size);
        for (int p = 0; p < now.size; p++) {
            for (int q = p + 1; q < now.size; q++) {
                if (!now.areJoined(p, q)) {
                    made.join(p, q);
                }
            }
        }
        adopt();
        return now.roads();
    }

    public int lines() {
        int count = now.roads();
        if (count > MOST_POSTS) {
            return FULL;
        }
        listRoads();
        made.empty(count);
        for (int i = 0; i < count; i++) {
            for (int j = i + 1; j < count; j++) {
                if (list[i] == list[j] || list[i] == partner[j] || partner[i] == list[j] || partner[i] == partner[j]) {
                    made.join(i, j);
                }
            }
        }
        return adopt();
    }

    public int keep() {
        stored.copyFrom(now);
        isStored = true;
        return 1;
    }

    public int back() {
        if (!isStored) {
            return STATE;
        }
        now.copyFrom(stored);
        forget();
        return 1;
    }

    // ---- heaps and kinds

    public int perfect(int e) {
        if (e < 0 || e > MOST_REACH) {
            return NUMBER;
        }
        if (now.size == 0) {
            return STATE;
        }
        if (search.reach != e) {
            measure();
            search.run(ways, now.size, e);
        }
        return search.found;
    }

    public int heap(int e, int i) {
        int found = perfect(e);
        if (found < 0) {
            return found;
        }
        return i < 0 || i >= found ? NEVER : search.taken[i];
    }

    public int kinds() {
        pairs.tellApart(now);
        return pairs.count;
    }

    public int kind(int p, int q) {
        if (!now.has(p) || !now.has(q)) {
            return NUMBER;
        }
        pairs.tellApart(now);
        return pairs.of(p, q);
    }

    // ---- what the calls share

    private static boolean isSheet(int r) {
        return r >= 0 && r < SHEET_COUNT;
    }

    private boolean mayLoad(Sheet sheet, int i, int m) {
        // Longs, since i + 2 m may not fit an int.
        if (i < 0 || m < 0 || i + 2L * m > sheet.size) {
            return false;
        }
        for (int pair = 0; pair < m; pair++) {
            int at = i + 2 * pair;
            if (!now.mayJoin(sheet.read(at), sheet.read(at + 1))) {
                return false;
            }
        }
        return true;
    }

    private void listRoads() {
        int count = 0;
        for (int p = 0; p < now.size; p++) {
            for (int q = p + 1; q < now.size; q++) {
                if (now.areJoined(p, q) && count < MOST_POSTS) {
                    list[count] = p;
                    partner[count] = q;
                    count++;
                }
            }
        }
    }

    private int adopt() {
        now.copyFrom(made);
        forget();
        return now.size;
    }

    // What was found out of the net is kept between calls, so whatever changes the net must end here.
    private void forget() {
        ways.ready = false;
        likeness.ready = false;
        pairs.ready = false;
        search.reach = -1;
    }

    private void measure() {
        if (!ways.ready) {
            ways.measure(now);
        }
    }

    private boolean isLike() {
        if (!likeness.ready) {
            measure();
            likeness.look(now, ways);
        }
        return likeness.holds;
    }

    private static int oneIf(boolean yes) {
        return yes ? 1 : 0;
    }

    private static int allOf(int n) {
        // A shift by 32 would shift by nothing.
        return n <= 0 ? 0 : -1 >>> (MOST_POSTS - n);
    }

    private static int lowestBit(int posts) {
        return Integer.bitCount((posts & -posts) - 1);
    }

    private static boolean isIn(int posts, int p) {
        return (posts >>> p & 1) != 0;
    }

    /** A row of numbers of one kind; its cells are made once and used again. */
    private static final class Sheet {
        final int[] cells;
        boolean there;
        int sort;
        int size;

        Sheet() {
            cells = new int[MOST_CELLS];
        }

        void lay(int newSort, int newSize) {
            there = true;
            sort = newSort;
            size = newSize;
            Arrays.fill(cells, 0);
        }

        boolean has(int i) {
            return i >= 0 && i < size;
        }

        int read(int i) {
            return has(i) ? cells[i] : -1;
        }

        void write(int i, int v) {
            if (sort == 0) {
                cells[i] = (byte) v;
            } else if (sort == 1) {
                cells[i] = (short) v;
            } else {
                cells[i] = v;
            }
        }
    }

    /** Posts and roads: bit q of near[p] tells whether p and q are joined. */
    private static final class Net {
        final int[] near;
        int size;

        Net() {
            near = new int[MOST_POSTS];
        }

        void empty(int n) {
            size = n;
            Arrays.fill(near, 0);
        }

        void copyFrom(Net source) {
            size = source.size;
            System.arraycopy(source.near, 0, near, 0, MOST_POSTS);
        }

        boolean has(int p) {
            return p >= 0 && p < size;
        }

        boolean mayJoin(int p, int q) {
            return has(p) && has(q) && p != q;
        }

        boolean areJoined(int p, int q) {
            return has(p) && has(q) && isIn(near[p], q);
        }

        void join(int p, int q) {
            if (mayJoin(p, q)) {
                near[p] |= 1 << q;
                near[q] |= 1 << p;
            }
        }

        void part(int p, int q) {
            if (mayJoin(p, q)) {
                near[p] &= ~(1 << q);
                near[q] &= ~(1 << p);
            }
        }

        int fullness(int p) {
            return Integer.bitCount(near[p]);
        }

        int roads() {
            int ends = 0;
            for (int p = 0; p < size; p++) {
                ends += fullness(p);
            }
            return ends / 2;
        }

        boolean isEven() {
            for (int p = 1; p < size; p++) {
                if (fullness(p) != fullness(0)) {
                    return false;
                }
            }
            return true;
        }

        int around(int posts) {
            int found = 0;
            for (int p = 0; p < size; p++) {
                if (isIn(posts, p)) {
                    found |= near[p];
                }
            }
            return found;
        }
    }

    /** The told makings of nets. */
    private static final class Makings {
        final int[] sets;

        Makings() {
            sets = new int[MOST_POSTS];
        }

        static boolean mayBe(int sort, int a, int b) {
            switch (sort) {
                case 0: return a >= 3;
                case 1: return a >= 1;
                case 2: return a >= 2 && b >= 1;
                case 3:
                case 4: return b >= 1 && b < a;
                case 5: return a >= 1 && b >= 1;
                default: return false;
            }
        }

        /** How many posts there would be, or some number above what may be. */
        static long size(int sort, int a, int b) {
            switch (sort) {
                case 2: return countWords(a, b);
                case 3:
                case 4: return countSets(a, b);
                case 5: return (long) a + b;
                default: return a;
            }
        }

        private static long countWords(int a, int b) {
            long count = 1;
            for (int i = 0; i < b && count <= MOST_POSTS; i++) {
                count *= a;
            }
            return count;
        }

        private static long countSets(int a, int b) {
            if (a > MOST_POSTS) {
                // At least a sets, as b is neither 0 nor a.
                return a;
            }
            long count = 1;
            for (int i = 1; i <= b; i++) {
                count = count * (a - b + i) / i;
            }
            return count;
        }

        void lay(Net net, int sort, int a, int b) {
            if (sort == 2) {
                layWords(net, a);
            } else if (sort == 3 || sort == 4) {
                listSets(net.size, b);
                layPairs(net, sort, b);
            } else {
                layPairs(net, sort, a);
            }
        }

        private static void layWords(Net net, int letters) {
            for (int p = 0; p < net.size; p++) {
                for (int q = p + 1; q < net.size; q++) {
                    if (unlikeLetters(p, q, letters) == 1) {
                        net.join(p, q);
                    }
                }
            }
        }

        private static int unlikeLetters(int p, int q, int letters) {
            if (letters < 2) {
                return 0;
            }
            int unlike = 0;
            int left = p;
            int right = q;
            for (int i = 0; i < MOST_POSTS && left != right; i++) {
                if (left % letters != right % letters) {
                    unlike++;
                }
                left /= letters;
                right /= letters;
            }
            return unlike;
        }

        private void listSets(int count, int b) {
            long set = (1L << b) - 1;
            for (int i = 0; i < count; i++) {
                sets[i] = (int) set;
                set = nextSet(set);
            }
        }

        // The next greater number with as many bits: the lowest run of ones gives its top one upward
        // and the rest of it falls to the bottom.
        private static long nextSet(long set) {
            long low = set & -set;
            long up = set + low;
            return up | (set ^ up) >>> (2 + Long.bitCount(low - 1));
        }

        private void layPairs(Net net, int sort, int number) {
            for (int p = 0; p < net.size; p++) {
                for (int q = p + 1; q < net.size; q++) {
                    if (isRoad(sort, p, q, number, net.size)) {
                        net.join(p, q);
                    }
                }
            }
        }

        /** For p below q; number is how many a set holds, or else the a that was told. */
        private boolean isRoad(int sort, int p, int q, int number, int size) {
            switch (sort) {
                case 0: return q == p + 1 || p == 0 && q == size - 1;
                case 1: return true;
                case 3: return Integer.bitCount(sets[p] & sets[q]) == number - 1;
                case 4: return (sets[p] & sets[q]) == 0;
                case 5: return p < number && q >= number;
                default: return false;
            }
        }
    }

    /** Ways of all pairs, and for each post which posts are at which way from it. */
    private static final class Ways {
        final int[] steps;
        final int[] layers;
        final int[] reached;
        boolean ready;
        boolean whole;
        int size;
        int far;

        Ways() {
            steps = new int[MOST_PAIRS];
            layers = new int[MOST_PAIRS];
            reached = new int[MOST_POSTS];
        }

        void measure(Net net) {
            size = net.size;
            Arrays.fill(steps, -1);
            Arrays.fill(layers, 0);
            int longest = 0;
            for (int p = 0; p < size; p++) {
                longest = Math.max(longest, spread(net, p));
            }
            whole = size > 0 && reached[0] == allOf(size);
            far = whole ? longest : -1;
            ready = true;
        }

        /** Answers the greatest way from p. */
        private int spread(Net net, int p) {
            int layer = 1 << p;
            int seen = layer;
            int last = 0;
            for (int i = 0; i < MOST_POSTS && layer != 0; i++) {
                layers[p * MOST_POSTS + i] = layer;
                noteSteps(p, layer, i);
                last = i;
                layer = net.around(layer) & ~seen;
                seen |= layer;
            }
            reached[p] = seen;
            return last;
        }

        private void noteSteps(int p, int layer, int i) {
            for (int q = 0; q < size; q++) {
                if (isIn(layer, q)) {
                    steps[p * MOST_POSTS + q] = i;
                }
            }
        }

        /** Below 0 if there is none. */
        int between(int p, int q) {
            return steps[p * MOST_POSTS + q];
        }

        int postsAt(int p, int i) {
            return i < 0 || i >= MOST_POSTS ? 0 : layers[p * MOST_POSTS + i];
        }

        int postsWithin(int p, int e) {
            int found = 0;
            for (int i = 0; i <= e && i < MOST_POSTS; i++) {
                found |= postsAt(p, i);
            }
            return found;
        }

        int pieces() {
            int count = 0;
            for (int p = 0; p < size; p++) {
                if (lowestBit(reached[p]) == p) {
                    count++;
                }
            }
            return count;
        }

        // A post of a least ring sees that ring as two shortest ways, or as two such ways and a road
        // between their ends; what another post sees so holds a ring that is no longer.
        int shortestRing(Net net) {
            int least = 0;
            for (int p = 0; p < size; p++) {
                for (int q = 0; q < size; q++) {
                    int ring = ringSeen(net, p, q);
                    if (ring > 0 && (least == 0 || ring < least)) {
                        least = ring;
                    }
                }
            }
            return least;
        }

        private int ringSeen(Net net, int p, int q) {
            int i = between(p, q);
            if (i < 1) {
                return 0;
            }
            if (Integer.bitCount(net.near[q] & postsAt(p, i - 1)) > 1) {
                return 2 * i;
            }
            return (net.near[q] & postsAt(p, i)) != 0 ? 2 * i + 1 : 0;
        }

        boolean isOfSides(Net net) {
            for (int p = 0; p < size; p++) {
                for (int q = 0; q < size; q++) {
                    int i = between(p, q);
                    if ((net.near[q] & postsAt(p, i)) != 0) {
                        return false;
                    }
                }
            }
            return true;
        }

        /** A post and all at the way far from it. */
        int farGroup(int p) {
            return 1 << p | postsAt(p, far);
        }

        // "The same or at the way far" is then a likeness of posts: those at the way far have one group.
        boolean isFolded() {
            if (far < 1) {
                return false;
            }
            for (int p = 0; p < size; p++) {
                for (int q = p + 1; q < size; q++) {
                    if (between(p, q) == far && farGroup(p) != farGroup(q)) {
                        return false;
                    }
                }
            }
            return true;
        }
    }

    /** Whether the net is like, with its table, or the clash. */
    private static final class Likeness {
        final int[] c;
        final int[] a;
        final int[] b;
        boolean ready;
        boolean holds;
        int clashFrom;
        int clashTo;

        Likeness() {
            c = new int[MOST_POSTS];
            a = new int[MOST_POSTS];
            b = new int[MOST_POSTS];
        }

        void look(Net net, Ways ways) {
            ready = true;
            holds = ways.whole;
            Arrays.fill(c, -1);
            for (int p = 0; p < net.size && holds; p++) {
                for (int q = 0; q < net.size && holds; q++) {
                    if (!fits(net, ways, p, q)) {
                        holds = false;
                        clashFrom = p;
                        clashTo = q;
                    }
                }
            }
        }

        private boolean fits(Net net, Ways ways, int p, int q) {
            int i = ways.between(p, q);
            if (i < 0) {
                return false;
            }
            int nearer = Integer.bitCount(net.near[q] & ways.postsAt(p, i - 1));
            int level = Integer.bitCount(net.near[q] & ways.postsAt(p, i));
            int farther = Integer.bitCount(net.near[q] & ways.postsAt(p, i + 1));
            if (c[i] < 0) {
                c[i] = nearer;
                a[i] = level;
                b[i] = farther;
                return true;
            }
            return c[i] == nearer && a[i] == level && b[i] == farther;
        }

        boolean isAtMost(int far, int limit) {
            for (int i = 0; i <= far; i++) {
                if (b[i] > limit || c[i] > limit) {
                    return false;
                }
            }
            return true;
        }
    }

    /** The told table: its laws, thirds, whole roots and walks. */
    private static final class Told {
        final int[] b;
        final int[] c;
        final long[] k;
        final long[] t;
        final long[] scaled;
        final long[] walkRow;
        final int[] roots;
        final int[] times;
        int length;
        int rootCount;
        int broken;
        long total;
        boolean judged;

        Told() {
            b = new int[TABLE_ROWS];
            c = new int[TABLE_ROWS];
            k = new long[TABLE_ROWS];
            t = new long[TABLE_ROWS * TABLE_ROWS * TABLE_ROWS];
            scaled = new long[TABLE_ROWS + 1];
            walkRow = new long[TABLE_ROWS];
            roots = new int[TABLE_ROWS];
            times = new int[TABLE_ROWS];
            lay(1);
        }

        static int place(int i, int j, int l) {
            return (i * TABLE_ROWS + j) * TABLE_ROWS + l;
        }

        void lay(int d) {
            length = d;
            Arrays.fill(b, 0);
            Arrays.fill(c, 0);
            for (int i = 0; i < d; i++) {
                b[i] = 1;
                c[i + 1] = 1;
            }
            judged = false;
        }

        int putOnward(int i, int v) {
            b[i] = v;
            judged = false;
            return 1;
        }

        int putBackward(int i, int v) {
            c[i] = v;
            judged = false;
            return 1;
        }

        boolean hasRow(int i) {
            return i >= 0 && i <= length;
        }

        /** a(i) of the document. */
        int level(int i) {
            return b[0] - b[i] - c[i];
        }

        boolean keepsLawsTo(int last) {
            int first = firstBroken();
            return first == 0 || first > last;
        }

        int firstBroken() {
            if (!judged) {
                broken = judge();
                judged = true;
            }
            return broken;
        }

        // Each step may lean on the laws ahead of it: no divisor is 0 after law 1, and so on.
        private int judge() {
            if (!isPositive()) {
                return 1;
            }
            if (!hasRoom()) {
                return 2;
            }
            if (!isInOrder()) {
                return 3;
            }
            if (!countLayers()) {
                return 4;
            }
            if (!isPaired()) {
                return 5;
            }
            layFirstThirds();
            if (!layOtherThirds()) {
                return 6;
            }
            return findRoots() ? 0 : 7;
        }

        private boolean isPositive() {
            for (int i = 0; i < length; i++) {
                if (b[i] < 1 || c[i + 1] < 1) {
                    return false;
                }
            }
            return c[1] == 1;
        }

        private boolean hasRoom() {
            for (int i = 0; i <= length; i++) {
                if (level(i) < 0) {
                    return false;
                }
            }
            return level(0) == 0;
        }

        private boolean isInOrder() {
            for (int i = 0; i < length; i++) {
                if (c[i] > c[i + 1] || i + 1 < length && b[i] < b[i + 1]) {
                    return false;
                }
            }
            return true;
        }

        private boolean countLayers() {
            k[0] = 1;
            total = 1;
            for (int i = 1; i <= length; i++) {
                long product = k[i - 1] * b[i - 1];
                if (c[i] == 0 || product % c[i] != 0) {
                    return false;
                }
                k[i] = product / c[i];
                total += k[i];
            }
            return total <= MOST_TOLD_POSTS;
        }

        private boolean isPaired() {
            for (int i = 0; i <= length; i++) {
                if (k[i] * level(i) % 2 != 0) {
                    return false;
                }
            }
            return b[0] * total % 2 == 0;
        }

        private void layFirstThirds() {
            for (int i = 0; i <= length; i++) {
                for (int l = 0; l <= length; l++) {
                    t[place(i, 0, l)] = l == i ? 1 : 0;
                    t[place(i, 1, l)] = firstThird(i, l);
                }
            }
        }

        private int firstThird(int i, int l) {
            if (l == i - 1) {
                return c[i];
            }
            if (l == i) {
                return level(i);
            }
            return l == i + 1 ? b[i] : 0;
        }

        private boolean layOtherThirds() {
            for (int j = 1; j < length; j++) {
                for (int i = 0; i <= length; i++) {
                    for (int l = 0; l <= length; l++) {
                        long product = thirdTimes(i, j, l);
                        if (product < 0 || c[j + 1] == 0 || product % c[j + 1] != 0) {
                            return false;
                        }
                        t[place(i, j + 1, l)] = product / c[j + 1];
                    }
                }
            }
            return true;
        }

        /** c(j + 1) t(i, j + 1, l) of the document. */
        private long thirdTimes(int i, int j, int l) {
            long sum = (level(l) - level(j)) * t[place(i, j, l)] - b[j - 1] * t[place(i, j - 1, l)];
            if (l > 0) {
                sum += b[l - 1] * t[place(i, j, l - 1)];
            }
            if (l < length) {
                sum += c[l + 1] * t[place(i, j, l + 1)];
            }
            return sum;
        }

        /** Answers whether all times are whole. */
        private boolean findRoots() {
            rootCount = 0;
            boolean allWhole = true;
            for (int r = b[0]; r >= -b[0]; r--) {
                if (isRoot(r) && rootCount < TABLE_ROWS) {
                    roots[rootCount] = r;
                    times[rootCount] = timesOfScaled();
                    allWhole = allWhole && times[rootCount] >= 0;
                    rootCount++;
                }
            }
            return allWhole;
        }

        // scaled[i] is u(i) times b(0) .. b(i - 1), which is whole for every whole r.
        private boolean isRoot(int r) {
            scaled[0] = 1;
            scaled[1] = r;
            for (int i = 1; i <= length; i++) {
                scaled[i + 1] = (r - level(i)) * scaled[i] - (long) c[i] * b[i - 1] * scaled[i - 1];
            }
            return scaled[length + 1] == 0;
        }

        // k(i) u(i) u(i) is scaled[i] squared, divided by b(0) .. b(i - 1) c(1) .. c(i); all are brought to
        // the last such divisor. By law 6 no u(i) is above 1 or below -1, so that all of it fits a long.
        private int timesOfScaled() {
            long whole = 1;
            for (int i = 1; i <= length; i++) {
                whole *= b[i - 1] * c[i];
            }
            long part = whole;
            long sum = whole;
            for (int i = 1; i <= length; i++) {
                int step = b[i - 1] * c[i];
                if (step == 0) {
                    return -1;
                }
                part /= step;
                sum += scaled[i] * scaled[i] * part;
            }
            long product = total * whole;
            return sum == 0 || product % sum != 0 ? -1 : (int) (product / sum);
        }

        long countWalks(int to, int roads) {
            Arrays.fill(walkRow, 0);
            walkRow[0] = 1;
            for (int step = 0; step < roads; step++) {
                long before = 0;
                for (int i = 0; i <= length; i++) {
                    long here = walkRow[i];
                    long after = i < length ? walkRow[i + 1] : 0;
                    walkRow[i] = c[i] * before + level(i) * here + b[i] * after;
                    before = here;
                }
            }
            return walkRow[to];
        }
    }

    /** The tree that finds perfect heaps. */
    private static final class Search {
        final int[] balls;
        final int[] taken;
        final int[] untried;
        int size;
        int reach;
        int found;

        Search() {
            balls = new int[MOST_POSTS];
            taken = new int[MOST_POSTS];
            untried = new int[MOST_POSTS];
            reach = -1;
        }

        void run(Ways ways, int posts, int e) {
            size = posts;
            for (int p = 0; p < size; p++) {
                balls[p] = ways.postsWithin(p, e);
            }
            found = climb();
            reach = e;
        }

        // Each turn takes a post or gives one up, and no more are given up than were taken.
        private int climb() {
            int all = allOf(size);
            int covered = 0;
            int depth = 0;
            int cases = 0;
            untried[0] = candidates(covered);
            for (int turn = 0; turn <= 2 * MOST_CASES + 2; turn++) {
                if (untried[depth] == 0) {
                    if (depth == 0) {
                        return NEVER;
                    }
                    depth--;
                    covered &= ~balls[taken[depth]];
                    continue;
                }
                if (cases == MOST_CASES) {
                    return SPENT;
                }
                cases++;
                int q = lowestBit(untried[depth]);
                untried[depth] &= untried[depth] - 1;
                taken[depth] = q;
                covered |= balls[q];
                depth++;
                if (covered == all || depth == MOST_POSTS) {
                    return depth;
                }
                untried[depth] = candidates(covered);
            }
            return SPENT;
        }

        /** The posts that may cover the least post that is not covered yet. */
        private int candidates(int covered) {
            int least = lowestBit(~covered);
            if (least >= size) {
                return 0;
            }
            int may = 0;
            for (int q = 0; q < size; q++) {
                if (isIn(balls[least], q) && (balls[q] & covered) == 0) {
                    may |= 1 << q;
                }
            }
            return may;
        }
    }

    /** The kinds of pairs, numbered by the first pair of each at all times. */
    private static final class Pairs {
        final int[] sorts;
        final int[] parted;
        final int[] firsts;
        final int[] heads;
        final int[] nexts;
        final long[] sums;
        final int[] keys;
        final int[] otherKeys;
        boolean ready;
        int size;
        int count;

        Pairs() {
            sorts = new int[MOST_PAIRS];
            parted = new int[MOST_PAIRS];
            firsts = new int[MOST_PAIRS];
            heads = new int[MOST_PAIRS];
            nexts = new int[MOST_PAIRS];
            sums = new long[MOST_PAIRS];
            keys = new int[MOST_POSTS];
            otherKeys = new int[MOST_POSTS];
        }

        int of(int p, int q) {
            return sorts[p * MOST_POSTS + q];
        }

        // Sums that differ part two pairs for sure and are cheap, but sums that agree prove nothing:
        // only where they part nothing more are pairs looked at closely.
        void tellApart(Net net) {
            if (ready) {
                return;
            }
            size = net.size;
            begin(net);
            boolean goesOn = true;
            for (int round = 0; round <= MOST_PAIRS && goesOn; round++) {
                int before = count;
                refine(false);
                if (count == before) {
                    refine(true);
                }
                goesOn = count > before;
            }
            ready = true;
        }

        private void begin(Net net) {
            int same = -1;
            int near = -1;
            int neither = -1;
            count = 0;
            for (int p = 0; p < size; p++) {
                for (int q = 0; q < size; q++) {
                    int at = p * MOST_POSTS + q;
                    if (p == q) {
                        same = same < 0 ? count++ : same;
                        sorts[at] = same;
                    } else if (net.areJoined(p, q)) {
                        near = near < 0 ? count++ : near;
                        sorts[at] = near;
                    } else {
                        neither = neither < 0 ? count++ : neither;
                        sorts[at] = neither;
                    }
                }
            }
        }

        private void refine(boolean closely) {
            Arrays.fill(heads, -1);
            count = 0;
            for (int p = 0; p < size; p++) {
                for (int q = 0; q < size; q++) {
                    int at = p * MOST_POSTS + q;
                    long sum = sumOf(p, q);
                    int sort = match(at, sum, closely);
                    parted[at] = sort < 0 ? open(at, sum) : sort;
                }
            }
            System.arraycopy(parted, 0, sorts, 0, MOST_PAIRS);
        }

        private int match(int at, long sum, boolean closely) {
            int sort = heads[sorts[at]];
            for (int tried = 0; tried < MOST_PAIRS && sort >= 0; tried++) {
                if (sums[sort] == sum && (!closely || isAlike(at, firsts[sort]))) {
                    return sort;
                }
                sort = nexts[sort];
            }
            return -1;
        }

        private int open(int at, long sum) {
            int sort = count;
            firsts[sort] = at;
            sums[sort] = sum;
            nexts[sort] = heads[sorts[at]];
            heads[sorts[at]] = sort;
            count++;
            return sort;
        }

        private int keyOf(int p, int x, int q) {
            return sorts[p * MOST_POSTS + x] * MOST_PAIRS + sorts[x * MOST_POSTS + q];
        }

        private long sumOf(int p, int q) {
            long sum = 0;
            for (int x = 0; x < size; x++) {
                sum += stir(keyOf(p, x, q));
            }
            return sum;
        }

        private static long stir(int key) {
            long stirred = (key + 1) * 0x9E3779B97F4A7C15L;
            stirred ^= stirred >>> 32;
            return stirred * stirred;
        }

        private boolean isAlike(int at, int first) {
            gather(keys, at);
            gather(otherKeys, first);
            for (int x = 0; x < size; x++) {
                if (keys[x] != otherKeys[x]) {
                    return false;
                }
            }
            return true;
        }

        private void gather(int[] row, int at) {
            int p = at / MOST_POSTS;
            int q = at % MOST_POSTS;
            for (int x = 0; x < size; x++) {
                int key = keyOf(p, x, q);
                int place = x;
                while (place > 0 && row[place - 1] > key) {
                    row[place] = row[place - 1];
                    place--;
                }
                row[place] = key;
            }
        }
    }
}
