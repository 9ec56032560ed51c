import java.math.BigInteger;
import java.util.ArrayList;
import java.util.Arrays;
import java.util.Collections;
import java.util.HashMap;
import java.util.List;
import java.util.Map;
import java.util.TreeSet;

/** The document once more, word by word, with no care for speed or room: what LikeNets is held against. */
final class PlainModel {
    private static final int NONE = 1000000;

    private final int[][] sheets = new int[4][];
    private final int[] sheetKinds = new int[4];
    private boolean[][] net = new boolean[0][0];
    private boolean[][] kept;
    private int[] b = {1, 0};
    private int[] c = {0, 1};
    private int cases;

    int sheet(int r, int kind, int n) {
        if (r < 0 || r > 3 || kind < 0 || kind > 2) {
            return -1;
        }
        if (n < 0) {
            return -4;
        }
        if (n > 60) {
            return -1;
        }
        sheets[r] = new int[n];
        sheetKinds[r] = kind;
        return 1;
    }

    int cell(int r, int i, int v) {
        if (r < 0 || r > 3) {
            return -1;
        }
        if (sheets[r] == null) {
            return -3;
        }
        if (i < 0 || i >= sheets[r].length) {
            return -1;
        }
        sheets[r][i] = sheetKinds[r] == 0 ? (byte) v : sheetKinds[r] == 1 ? (short) v : v;
        return 1;
    }

    int lose(int r) {
        if (r < 0 || r > 3) {
            return -1;
        }
        if (sheets[r] == null) {
            return -3;
        }
        sheets[r] = null;
        return 1;
    }

    int net(int n) {
        if (n < 0 || n > 32) {
            return -1;
        }
        net = new boolean[n][n];
        return 1;
    }

    private boolean isPost(long p) {
        return p >= 0 && p < net.length;
    }

    int road(int p, int q, boolean on) {
        if (!isPost(p) || !isPost(q) || p == q) {
            return -1;
        }
        boolean was = net[p][q];
        net[p][q] = on;
        net[q][p] = on;
        return was == on ? 0 : 1;
    }

    int load(int r, int i, int m) {
        if (r < 0 || r > 3) {
            return -1;
        }
        if (sheets[r] == null) {
            return -3;
        }
        if (i < 0 || m < 0 || (long) i + 2L * m > sheets[r].length) {
            return -1;
        }
        for (int x = i; x < i + 2 * m; x += 2) {
            int p = sheets[r][x];
            int q = sheets[r][x + 1];
            if (!isPost(p) || !isPost(q) || p == q) {
                return -1;
            }
        }
        int fresh = 0;
        for (int x = i; x < i + 2 * m; x += 2) {
            fresh += road(sheets[r][x], sheets[r][x + 1], true);
        }
        return fresh;
    }

    boolean joined(int p, int q) {
        return isPost(p) && isPost(q) && net[p][q];
    }

    int build(int kind, int a, int b) {
        boolean may = kind == 0 && a >= 3 || kind == 1 && a >= 1 || kind == 2 && a >= 2 && b >= 1
            || (kind == 3 || kind == 4) && b >= 1 && b < a || kind == 5 && a >= 1 && b >= 1;
        if (!may) {
            return -1;
        }
        List<List<Integer>> names = new ArrayList<>();
        if (kind == 0 || kind == 1) {
            if (a > 32) {
                return -2;
            }
            return lay(a, kind, a, null);
        }
        if (kind == 5) {
            return (long) a + b > 32 ? -2 : lay(a + b, 5, a, null);
        }
        if (kind == 2) {
            if (b > 5 || Math.pow(a, b) > 32.5) {
                return -2;
            }
            int count = (int) Math.round(Math.pow(a, b));
            for (int w = 0; w < count; w++) {
                List<Integer> letters = new ArrayList<>();
                for (int i = 0, rest = w; i < b; i++, rest /= a) {
                    letters.add(rest % a);
                }
                names.add(letters);
            }
            return lay(count, 2, a, names);
        }
        BigInteger count = BigInteger.ONE;
        if (a > 32) {
            return -2;
        }
        for (int i = 1; i <= b; i++) {
            count = count.multiply(BigInteger.valueOf(a - i + 1)).divide(BigInteger.valueOf(i));
        }
        if (count.compareTo(BigInteger.valueOf(32)) > 0) {
            return -2;
        }
        TreeSet<Long> sums = new TreeSet<>();
        addSums(sums, 0, 0, 0, a, b);
        for (long sum : sums) {
            List<Integer> members = new ArrayList<>();
            for (int x = 0; x < a; x++) {
                if ((sum >> x & 1) == 1) {
                    members.add(x);
                }
            }
            names.add(members);
        }
        return lay(names.size(), kind, a, names);
    }

    private static void addSums(TreeSet<Long> sums, int from, int taken, long sum, int a, int b) {
        if (taken == b) {
            sums.add(sum);
            return;
        }
        for (int x = from; x <= a - (b - taken); x++) {
            addSums(sums, x + 1, taken + 1, sum + (1L << x), a, b);
        }
    }

    private int lay(int n, int kind, int a, List<List<Integer>> names) {
        net = new boolean[n][n];
        for (int p = 0; p < n; p++) {
            for (int q = 0; q < n; q++) {
                if (p == q) {
                    continue;
                }
                switch (kind) {
                    case 0 -> net[p][q] = (p + 1) % n == q || (q + 1) % n == p;
                    case 1 -> net[p][q] = true;
                    case 2 -> {
                        int unlike = 0;
                        for (int i = 0; i < names.get(p).size(); i++) {
                            unlike += names.get(p).get(i).equals(names.get(q).get(i)) ? 0 : 1;
                        }
                        net[p][q] = unlike == 1;
                    }
                    case 3 -> {
                        List<Integer> alone = new ArrayList<>(names.get(p));
                        alone.removeAll(names.get(q));
                        net[p][q] = alone.size() == 1;
                    }
                    case 4 -> net[p][q] = Collections.disjoint(names.get(p), names.get(q));
                    default -> net[p][q] = p < a != q < a;
                }
            }
        }
        return n;
    }

    private int[][] ways() {
        int n = net.length;
        int[][] w = new int[n][n];
        for (int p = 0; p < n; p++) {
            for (int q = 0; q < n; q++) {
                w[p][q] = p == q ? 0 : net[p][q] ? 1 : NONE;
            }
        }
        for (int x = 0; x < n; x++) {
            for (int p = 0; p < n; p++) {
                for (int q = 0; q < n; q++) {
                    w[p][q] = Math.min(w[p][q], w[p][x] + w[x][q]);
                }
            }
        }
        return w;
    }

    int way(int p, int q) {
        if (!isPost(p) || !isPost(q)) {
            return -1;
        }
        int w = ways()[p][q];
        return w >= NONE ? -8 : w;
    }

    private boolean isWhole() {
        return net.length > 0 && Arrays.stream(ways()[0]).allMatch(w -> w < NONE);
    }

    private int far() {
        return Arrays.stream(ways()).flatMapToInt(Arrays::stream).max().orElse(0);
    }

    int many(int what) {
        int n = net.length;
        switch (what) {
            case 0: return n;
            case 1: return roads().size();
            case 2: {
                int pieces = 0;
                int[][] w = ways();
                for (int p = 0; p < n; p++) {
                    boolean first = true;
                    for (int q = 0; q < p; q++) {
                        first &= w[p][q] >= NONE;
                    }
                    pieces += first ? 1 : 0;
                }
                return pieces;
            }
            case 3: return isWhole() ? 1 : 0;
            case 4: return isWhole() ? far() : -1;
            case 5: return round();
            case 6: {
                TreeSet<Integer> fullness = new TreeSet<>();
                for (boolean[] row : net) {
                    int roads = 0;
                    for (boolean on : row) {
                        roads += on ? 1 : 0;
                    }
                    fullness.add(roads);
                }
                return fullness.size() <= 1 ? 1 : 0;
            }
            case 7: return isOfSides() ? 1 : 0;
            case 8: return isFolded() ? 1 : 0;
            case 9: return isWhole() && clashPair() == null ? 1 : 0;
            default: return -1;
        }
    }

    private List<int[]> roads() {
        List<int[]> all = new ArrayList<>();
        for (int p = 0; p < net.length; p++) {
            for (int q = p + 1; q < net.length; q++) {
                if (net[p][q]) {
                    all.add(new int[] {p, q});
                }
            }
        }
        return all;
    }

    /** The least ring through a road is that road and the way of its ends without it. */
    private int round() {
        int least = NONE;
        for (int[] road : roads()) {
            net[road[0]][road[1]] = false;
            net[road[1]][road[0]] = false;
            least = Math.min(least, ways()[road[0]][road[1]] + 1);
            net[road[0]][road[1]] = true;
            net[road[1]][road[0]] = true;
        }
        return least >= NONE ? 0 : least;
    }

    private boolean isOfSides() {
        int[] side = new int[net.length];
        for (int p = 0; p < net.length; p++) {
            if (side[p] == 0 && !paint(side, p, 1)) {
                return false;
            }
        }
        return true;
    }

    private boolean paint(int[] side, int p, int colour) {
        if (side[p] != 0) {
            return side[p] == colour;
        }
        side[p] = colour;
        for (int q = 0; q < net.length; q++) {
            if (net[p][q] && !paint(side, q, -colour)) {
                return false;
            }
        }
        return true;
    }

    private boolean isFolded() {
        if (!isWhole() || far() < 1) {
            return false;
        }
        int far = far();
        int[][] w = ways();
        for (int x = 0; x < net.length; x++) {
            for (int y = 0; y < net.length; y++) {
                for (int z = 0; z < net.length; z++) {
                    if (w[x][y] == far && w[y][z] == far && x != z && w[x][z] != far) {
                        return false;
                    }
                }
            }
        }
        return true;
    }

    private int[] counts(int[][] w, int p, int q) {
        int[] found = new int[3];
        for (int x = 0; x < net.length; x++) {
            if (net[q][x]) {
                found[w[p][x] - w[p][q] + 1]++;
            }
        }
        return found;
    }

    private int[] clashPair() {
        int[][] w = ways();
        Map<Integer, int[]> first = new HashMap<>();
        for (int p = 0; p < net.length; p++) {
            for (int q = 0; q < net.length; q++) {
                int[] found = counts(w, p, q);
                int[] due = first.putIfAbsent(w[p][q], found);
                if (due != null && !Arrays.equals(due, found)) {
                    return new int[] {p, q};
                }
            }
        }
        return null;
    }

    int clash(int what) {
        if (what < 0 || what > 1) {
            return -1;
        }
        if (!isWhole()) {
            return -5;
        }
        int[] pair = clashPair();
        return pair == null ? -8 : pair[what];
    }

    int table(int i, int what) {
        if (what < 0 || what > 3) {
            return -1;
        }
        if (many(9) == 0) {
            return -5;
        }
        if (i < 0 || i > far()) {
            return -1;
        }
        int[][] w = ways();
        int at = 0;
        int there = 0;
        for (int q = 0; q < net.length; q++) {
            if (w[0][q] == i) {
                at = q;
                there++;
            }
        }
        return what == 3 ? there : counts(w, 0, at)[what];
    }

    int thirds(int p, int q, int j, int l) {
        if (!isPost(p) || !isPost(q) || j < 0 || l < 0) {
            return -1;
        }
        int[][] w = ways();
        int found = 0;
        for (int x = 0; x < net.length; x++) {
            if (w[p][x] < NONE && w[q][x] < NONE && w[p][x] == j && w[q][x] == l) {
                found++;
            }
        }
        return found;
    }

    int tell(int d) {
        if (d < 1 || d > 5) {
            return -1;
        }
        b = new int[d + 1];
        c = new int[d + 1];
        Arrays.fill(b, 0, d, 1);
        Arrays.fill(c, 1, d + 1, 1);
        return 1;
    }

    private int d() {
        return b.length - 1;
    }

    int put(int what, int i, int v) {
        if (what < 0 || what > 1 || v < 0 || v > 20) {
            return -1;
        }
        if (what == 0 ? i < 0 || i > d() - 1 : i < 1 || i > d()) {
            return -1;
        }
        (what == 0 ? b : c)[i] = v;
        return 1;
    }

    int take() {
        if (many(9) == 0 || far() < 1 || far() > 5) {
            return -5;
        }
        int d = far();
        int[] newB = new int[d + 1];
        int[] newC = new int[d + 1];
        for (int i = 0; i <= d; i++) {
            newB[i] = table(i, 2);
            newC[i] = table(i, 0);
            if (newB[i] > 20 || newC[i] > 20) {
                return -5;
            }
        }
        b = newB;
        c = newC;
        return d;
    }

    private int a(int i) {
        return b[0] - b[i] - c[i];
    }

    /** A number that need not be whole; the divisor is above 0 and no divisor is common. */
    private record Part(BigInteger over, BigInteger under) {
        static Part of(long number) {
            return new Part(BigInteger.valueOf(number), BigInteger.ONE);
        }

        static Part made(BigInteger over, BigInteger under) {
            BigInteger common = over.gcd(under);
            if (under.signum() < 0) {
                common = common.negate();
            }
            return new Part(over.divide(common), under.divide(common));
        }

        Part plus(Part x) {
            return made(over.multiply(x.under).add(x.over.multiply(under)), under.multiply(x.under));
        }

        Part minus(Part x) {
            return plus(x.times(of(-1)));
        }

        Part times(Part x) {
            return made(over.multiply(x.over), under.multiply(x.under));
        }

        Part by(Part x) {
            return made(over.multiply(x.under), under.multiply(x.over));
        }

        boolean isWhole() {
            return under.equals(BigInteger.ONE);
        }
    }

    private Part k(int i) {
        Part found = Part.of(1);
        for (int x = 1; x <= i; x++) {
            found = found.times(Part.of(b[x - 1])).by(Part.of(c[x]));
        }
        return found;
    }

    private Part all() {
        Part sum = Part.of(0);
        for (int i = 0; i <= d(); i++) {
            sum = sum.plus(k(i));
        }
        return sum;
    }

    private Part t(int i, int j, int l) {
        if (i < 0 || l < 0 || i > d() || l > d()) {
            return Part.of(0);
        }
        if (j == 0) {
            return Part.of(l == i ? 1 : 0);
        }
        if (j == 1) {
            return Part.of(l == i - 1 ? c[i] : l == i ? a(i) : l == i + 1 ? b[i] : 0);
        }
        int g = j - 1;
        Part sum = Part.of(a(l) - a(g)).times(t(i, g, l));
        if (l > 0) {
            sum = sum.plus(Part.of(b[l - 1]).times(t(i, g, l - 1)));
        }
        if (l < d()) {
            sum = sum.plus(Part.of(c[l + 1]).times(t(i, g, l + 1)));
        }
        return sum.minus(Part.of(b[g - 1]).times(t(i, g - 1, l))).by(Part.of(c[j]));
    }

    private Part[] cosines(int r) {
        Part[] u = new Part[d() + 1];
        u[0] = Part.of(1);
        u[1] = Part.of(r).by(Part.of(b[0]));
        for (int i = 1; i < d(); i++) {
            u[i + 1] = Part.of(r - a(i)).times(u[i]).minus(Part.of(c[i]).times(u[i - 1])).by(Part.of(b[i]));
        }
        return u;
    }

    private List<Integer> wholeRoots() {
        List<Integer> found = new ArrayList<>();
        int d = d();
        for (int r = b[0]; r >= -b[0]; r--) {
            Part[] u = cosines(r);
            Part left = Part.of(c[d]).times(u[d - 1]).plus(Part.of(a(d)).times(u[d]));
            if (left.equals(Part.of(r).times(u[d]))) {
                found.add(r);
            }
        }
        return found;
    }

    private Part timesOf(int r) {
        Part[] u = cosines(r);
        Part sum = Part.of(0);
        for (int i = 0; i <= d(); i++) {
            sum = sum.plus(k(i).times(u[i]).times(u[i]));
        }
        return all().by(sum);
    }

    int can() {
        int d = d();
        for (int i = 1; i <= d; i++) {
            if (b[i - 1] < 1 || c[i] < 1) {
                return 1;
            }
        }
        if (c[1] != 1) {
            return 1;
        }
        for (int i = 0; i <= d; i++) {
            if (a(i) < 0) {
                return 2;
            }
        }
        for (int i = 1; i <= d; i++) {
            if (c[i - 1] > c[i] || i <= d - 1 && b[i - 1] < b[i]) {
                return 3;
            }
        }
        for (int i = 0; i <= d; i++) {
            if (!k(i).isWhole()) {
                return 4;
            }
        }
        if (all().over().compareTo(BigInteger.valueOf(100000)) > 0) {
            return 4;
        }
        boolean odd = all().over().multiply(BigInteger.valueOf(b[0])).testBit(0);
        for (int i = 0; i <= d; i++) {
            odd |= k(i).over().multiply(BigInteger.valueOf(a(i))).testBit(0);
        }
        if (odd) {
            return 5;
        }
        for (int i = 0; i <= d; i++) {
            for (int j = 0; j <= d; j++) {
                for (int l = 0; l <= d; l++) {
                    Part third = t(i, j, l);
                    if (!third.isWhole() || third.over().signum() < 0) {
                        return 6;
                    }
                }
            }
        }
        for (int r : wholeRoots()) {
            if (!timesOf(r).isWhole()) {
                return 7;
            }
        }
        return 0;
    }

    private boolean breaks(int last) {
        int law = can();
        return law != 0 && law <= last;
    }

    private boolean isRow(int i) {
        return i >= 0 && i <= d();
    }

    int entry(int i, int what) {
        if (what < 0 || what > 3 || !isRow(i)) {
            return -1;
        }
        if (breaks(4)) {
            return -6;
        }
        return what == 0 ? c[i] : what == 1 ? a(i) : what == 2 ? b[i] : k(i).over().intValueExact();
    }

    int posts() {
        return breaks(4) ? -6 : all().over().intValueExact();
    }

    int third(int i, int j, int l) {
        if (!isRow(i) || !isRow(j) || !isRow(l)) {
            return -1;
        }
        return breaks(6) ? -6 : t(i, j, l).over().intValueExact();
    }

    int root(int i, int what) {
        if (what < 0 || what > 1) {
            return -1000;
        }
        if (breaks(6)) {
            return -1001;
        }
        List<Integer> found = wholeRoots();
        if (i < 0 || i >= found.size()) {
            return -1002;
        }
        if (what == 0) {
            return found.get(i);
        }
        Part times = timesOf(found.get(i));
        return times.isWhole() ? times.over().intValueExact() : -1;
    }

    long walks(int i, int m) {
        if (!isRow(i) || m < 0 || m > 8) {
            return -1;
        }
        return breaks(4) ? -6 : walksTo(i, m);
    }

    private long walksTo(int i, int m) {
        if (i < 0 || i > d()) {
            return 0;
        }
        if (m == 0) {
            return i == 0 ? 1 : 0;
        }
        return c[i] * walksTo(i - 1, m - 1) + a(i) * walksTo(i, m - 1) + b[i] * walksTo(i + 1, m - 1);
    }

    long bound(int k, int d) {
        if (k < 1 || k > 60 || d < 1 || d > 6) {
            return -1;
        }
        BigInteger sum = BigInteger.ONE;
        for (int i = 0; i < d; i++) {
            sum = sum.add(BigInteger.valueOf(k).multiply(BigInteger.valueOf(k - 1).pow(i)));
        }
        return sum.longValueExact();
    }

    int fold() {
        if (!isFolded()) {
            return -5;
        }
        int[][] w = ways();
        int far = far();
        List<TreeSet<Integer>> groups = new ArrayList<>();
        for (int p = 0; p < net.length; p++) {
            TreeSet<Integer> group = new TreeSet<>();
            for (int q = 0; q < net.length; q++) {
                if (q == p || w[p][q] == far) {
                    group.add(q);
                }
            }
            if (!groups.contains(group)) {
                groups.add(group);
            }
        }
        boolean[][] next = new boolean[groups.size()][groups.size()];
        for (int i = 0; i < next.length; i++) {
            for (int j = 0; j < next.length; j++) {
                for (int p : groups.get(i)) {
                    for (int q : groups.get(j)) {
                        next[i][j] |= i != j && net[p][q];
                    }
                }
            }
        }
        net = next;
        return net.length;
    }

    int half() {
        if (!isWhole() || !isOfSides()) {
            return -5;
        }
        int[] side = new int[net.length];
        paint(side, 0, 1);
        int[][] w = ways();
        List<Integer> stay = new ArrayList<>();
        for (int p = 0; p < net.length; p++) {
            if (side[p] == 1) {
                stay.add(p);
            }
        }
        net = new boolean[stay.size()][stay.size()];
        for (int i = 0; i < net.length; i++) {
            for (int j = 0; j < net.length; j++) {
                net[i][j] = w[stay.get(i)][stay.get(j)] == 2;
            }
        }
        return net.length;
    }

    int twice() {
        int n = net.length;
        if (2 * n > 32) {
            return -2;
        }
        boolean[][] next = new boolean[2 * n][2 * n];
        for (int p = 0; p < n; p++) {
            for (int q = 0; q < n; q++) {
                next[p][n + q] = net[p][q];
                next[n + q][p] = net[p][q];
            }
        }
        net = next;
        return 2 * n;
    }

    int power(int i) {
        if (i < 1) {
            return -1;
        }
        int[][] w = ways();
        for (int p = 0; p < net.length; p++) {
            for (int q = 0; q < net.length; q++) {
                net[p][q] = w[p][q] < NONE && w[p][q] == i;
            }
        }
        return roads().size();
    }

    int other() {
        for (int p = 0; p < net.length; p++) {
            for (int q = 0; q < net.length; q++) {
                net[p][q] = p != q && !net[p][q];
            }
        }
        return roads().size();
    }

    int lines() {
        List<int[]> all = roads();
        if (all.size() > 32) {
            return -2;
        }
        net = new boolean[all.size()][all.size()];
        for (int i = 0; i < net.length; i++) {
            for (int j = 0; j < net.length; j++) {
                int[] x = all.get(i);
                int[] y = all.get(j);
                net[i][j] = i != j && (x[0] == y[0] || x[0] == y[1] || x[1] == y[0] || x[1] == y[1]);
            }
        }
        return net.length;
    }

    private static boolean[][] copy(boolean[][] rows) {
        boolean[][] made = new boolean[rows.length][];
        for (int p = 0; p < rows.length; p++) {
            made[p] = rows[p].clone();
        }
        return made;
    }

    int keep() {
        kept = copy(net);
        return 1;
    }

    int back() {
        if (kept == null) {
            return -5;
        }
        net = copy(kept);
        return 1;
    }

    int perfect(int e) {
        return heapOrWhy(e, new ArrayList<>());
    }

    int heap(int e, int i) {
        List<Integer> taken = new ArrayList<>();
        int found = heapOrWhy(e, taken);
        return found < 0 ? found : i < 0 || i >= found ? -8 : taken.get(i);
    }

    private int heapOrWhy(int e, List<Integer> taken) {
        if (e < 0 || e > 6) {
            return -1;
        }
        if (net.length == 0) {
            return -5;
        }
        cases = 0;
        int answer = climb(ways(), e, taken);
        return answer == 1 ? taken.size() : answer == 0 ? -8 : -7;
    }

    /** 1 if a heap was found, 0 if there is none from here on, -1 if it is spent. */
    private int climb(int[][] w, int e, List<Integer> taken) {
        int least = -1;
        for (int p = 0; p < net.length && least < 0; p++) {
            int at = p;
            if (taken.stream().noneMatch(q -> w[q][at] <= e)) {
                least = p;
            }
        }
        if (least < 0) {
            return 1;
        }
        for (int q = 0; q < net.length; q++) {
            if (w[least][q] > e || meets(w, e, taken, q)) {
                continue;
            }
            if (cases == 20000) {
                return -1;
            }
            cases++;
            taken.add(q);
            int answer = climb(w, e, taken);
            if (answer != 0) {
                return answer;
            }
            taken.remove(taken.size() - 1);
        }
        return 0;
    }

    private boolean meets(int[][] w, int e, List<Integer> taken, int q) {
        for (int t : taken) {
            for (int x = 0; x < net.length; x++) {
                if (w[q][x] <= e && w[t][x] <= e) {
                    return true;
                }
            }
        }
        return false;
    }

    private int[][] pairKinds() {
        int n = net.length;
        int[][] kind = new int[n][n];
        for (int p = 0; p < n; p++) {
            for (int q = 0; q < n; q++) {
                kind[p][q] = p == q ? 0 : net[p][q] ? 1 : 2;
            }
        }
        int before = -1;
        int count = (int) Arrays.stream(kind).flatMapToInt(Arrays::stream).distinct().count();
        while (count != before) {
            before = count;
            Map<List<Integer>, Integer> numbers = new HashMap<>();
            int[][] next = new int[n][n];
            for (int p = 0; p < n; p++) {
                for (int q = 0; q < n; q++) {
                    List<Integer> seen = new ArrayList<>();
                    for (int x = 0; x < n; x++) {
                        seen.add(kind[p][x] * 2000 + kind[x][q]);
                    }
                    Collections.sort(seen);
                    seen.add(kind[p][q]);
                    Integer number = numbers.putIfAbsent(seen, numbers.size());
                    next[p][q] = number == null ? numbers.size() - 1 : number;
                }
            }
            kind = next;
            count = numbers.size();
        }
        return kind;
    }

    int kinds() {
        return (int) Arrays.stream(pairKinds()).flatMapToInt(Arrays::stream).distinct().count();
    }

    int kind(int p, int q) {
        return isPost(p) && isPost(q) ? pairKinds()[p][q] : -1;
    }
}
