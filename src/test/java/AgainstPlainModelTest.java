import java.util.Random;

/** Runs of calls with fixed seeds, right and wrong ones mixed, each answer held against the plain model. */
public final class AgainstPlainModelTest {
    private static final Due DUE = new Due("AgainstPlainModelTest");
    private static final int[] ODD = {-1, Integer.MIN_VALUE, Integer.MAX_VALUE, 33, 61, 1 << 30, -2, 32};

    private final Random random;
    private final int seed;
    private LikeNets x = new LikeNets();
    private PlainModel y = new PlainModel();
    private int step;

    private AgainstPlainModelTest(int seed) {
        this.seed = seed;
        random = new Random(seed);
    }

    public static void main(String[] args) {
        for (int seed = 0; seed < 240; seed++) {
            new AgainstPlainModelTest(seed).run();
        }
        for (int seed = 1000; seed < 1060; seed++) {
            new AgainstPlainModelTest(seed).largeNet();
        }
        for (int seed = 2000; seed < 8000; seed++) {
            new AgainstPlainModelTest(seed).orderedTable();
        }
        DUE.end();
    }

    /** Mostly from least to most, now and then one that is far off or just beside. */
    private int pick(int least, int most) {
        int chance = random.nextInt(40);
        if (chance == 0) {
            return ODD[random.nextInt(ODD.length)];
        }
        if (chance == 1) {
            return random.nextBoolean() ? least - 1 : most + 1;
        }
        return least + random.nextInt(most - least + 1);
    }

    private int post() {
        return pick(0, Math.max(0, y.many(0) - 1));
    }

    private void same(String call, long got, long want) {
        step++;
        DUE.is("seed " + seed + ", call " + step + ": " + call, got, want);
    }

    private void run() {
        // A step makes at most eight calls, and an object is good for 512.
        while (step < 500) {
            switch (random.nextInt(8)) {
                case 0 -> sheetCall();
                case 1, 2 -> netCall();
                case 3 -> wayCall();
                case 4 -> tableCall();
                case 5 -> toldCall();
                case 6 -> madeCall();
                default -> heapCall();
            }
        }
    }

    private void sheetCall() {
        int r = pick(0, 3);
        switch (random.nextInt(6)) {
            case 0 -> {
                int kind = pick(0, 2);
                int n = random.nextInt(9) == 0 ? -1 : pick(0, 60);
                same("sheet", x.sheet(r, kind, n), y.sheet(r, kind, n));
            }
            case 1, 2 -> {
                int i = pick(0, 12);
                int v = random.nextInt(5) == 0 ? random.nextInt() : post();
                same("cell", x.cell(r, i, v), y.cell(r, i, v));
            }
            case 3, 4 -> {
                int i = pick(0, 8);
                int m = pick(0, 4);
                same("load", x.load(r, i, m), y.load(r, i, m));
            }
            default -> same("lose", x.lose(r), y.lose(r));
        }
    }

    private void netCall() {
        int chance = random.nextInt(12);
        if (chance == 0) {
            int n = random.nextInt(3) == 0 ? pick(0, 32) : pick(0, 9);
            same("net", x.net(n), y.net(n));
        } else if (chance < 5) {
            int kind = pick(0, 5);
            int a = pick(1, kind == 0 || kind == 1 ? 24 : 8);
            int b = pick(1, kind == 5 ? 8 : 4);
            same("build(" + kind + ", " + a + ", " + b + ")", x.build(kind, a, b), y.build(kind, a, b));
        } else {
            int p = post();
            int q = post();
            boolean on = random.nextInt(3) > 0;
            same("road", x.road(p, q, on), y.road(p, q, on));
            same("joined", x.joined(p, q) ? 1 : 0, y.joined(p, q) ? 1 : 0);
        }
    }

    private void wayCall() {
        int p = post();
        int q = post();
        int j = pick(0, 4);
        int l = pick(0, 4);
        same("way", x.way(p, q), y.way(p, q));
        same("thirds", x.thirds(p, q, j, l), y.thirds(p, q, j, l));
        int what = pick(0, 9);
        same("many(" + what + ")", x.many(what), y.many(what));
    }

    private void tableCall() {
        int what = pick(0, 3);
        int i = pick(0, 4);
        same("table", x.table(i, what), y.table(i, what));
        same("clash", x.clash(what), y.clash(what));
        same("clash(0)", x.clash(0), y.clash(0));
        same("clash(1)", x.clash(1), y.clash(1));
    }

    private void toldCall() {
        switch (random.nextInt(9)) {
            case 0 -> {
                int d = pick(1, 5);
                same("tell", x.tell(d), y.tell(d));
            }
            case 1, 2, 3 -> {
                int what = pick(0, 1);
                int i = pick(0, 5);
                int v = random.nextInt(2) == 0 ? pick(0, 4) : pick(0, 20);
                same("put", x.put(what, i, v), y.put(what, i, v));
            }
            case 4, 5 -> same("take", x.take(), y.take());
            default -> {
                same("can", x.can(), y.can());
                same("posts", x.posts(), y.posts());
                int i = pick(0, 5);
                int j = pick(0, 5);
                int l = pick(0, 5);
                same("entry", x.entry(i, j), y.entry(i, j));
                same("third", x.third(i, j, l), y.third(i, j, l));
                same("root", x.root(i, j % 2), y.root(i, j % 2));
                same("walks", x.walks(i, j + l), y.walks(i, j + l));
                same("bound", x.bound(12 * i, j), y.bound(12 * i, j));
            }
        }
    }

    private void madeCall() {
        switch (random.nextInt(10)) {
            case 0 -> same("fold", x.fold(), y.fold());
            case 1 -> same("half", x.half(), y.half());
            case 2 -> same("twice", x.twice(), y.twice());
            case 3 -> {
                int i = pick(1, 3);
                same("power", x.power(i), y.power(i));
            }
            case 4 -> same("other", x.other(), y.other());
            case 5 -> same("lines", x.lines(), y.lines());
            case 6, 7 -> same("keep", x.keep(), y.keep());
            default -> same("back", x.back(), y.back());
        }
    }

    private void heapCall() {
        int e = pick(0, 6);
        if (random.nextInt(2) == 0) {
            int i = pick(0, 5);
            same("perfect", x.perfect(e), y.perfect(e));
            same("heap", x.heap(e, i), y.heap(e, i));
        } else {
            int p = post();
            int q = post();
            same("kinds", x.kinds(), y.kinds());
            same("kind", x.kind(p, q), y.kind(p, q));
        }
    }

    /** Up to 32 posts with roads by chance, few or many, and all that one can ask of them. */
    private void largeNet() {
        int n = 12 + random.nextInt(21);
        int chance = 2 + random.nextInt(14);
        same("net", x.net(n), y.net(n));
        for (int p = 0; p < n; p++) {
            for (int q = p + 1; q < n; q++) {
                if (random.nextInt(32) < chance) {
                    same("road", x.road(p, q, true), y.road(p, q, true));
                }
            }
        }
        if (random.nextInt(4) == 0) {
            same("other", x.other(), y.other());
        }
        same("keep", x.keep(), y.keep());
        for (int what = 0; what <= 9; what++) {
            same("many(" + what + ")", x.many(what), y.many(what));
        }
        for (int e = 0; e <= 6; e++) {
            same("perfect", x.perfect(e), y.perfect(e));
        }
        same("kinds", x.kinds(), y.kinds());
        for (int i = 0; i < 10; i++) {
            wayCall();
            int p = post();
            int q = post();
            same("kind", x.kind(p, q), y.kind(p, q));
        }
        same("clash(0)", x.clash(0), y.clash(0));
        same("clash(1)", x.clash(1), y.clash(1));
        for (int i = 0; i < 6; i++) {
            madeCall();
            same("kinds", x.kinds(), y.kinds());
            same("ROUND", x.many(5), y.many(5));
        }
    }

    /** Tables that keep laws 1 to 3, so that the later ones come into play. */
    private void orderedTable() {
        int d = 1 + random.nextInt(5);
        same("tell", x.tell(d), y.tell(d));
        int k = 1 + random.nextInt(20);
        int b = k;
        int c = 1;
        for (int i = 0; i < d; i++) {
            same("put", x.put(0, i, b), y.put(0, i, b));
            same("put", x.put(1, i + 1, c), y.put(1, i + 1, c));
            b = Math.max(1, b - random.nextInt(Math.max(1, Math.min(b, 4))));
            c += random.nextInt(3) * random.nextInt(2);
            if (i < d - 1) {
                b = Math.max(1, Math.min(b, k - c));
            }
        }
        same("can", x.can(), y.can());
        same("posts", x.posts(), y.posts());
        for (int i = 0; i <= d; i++) {
            int j = random.nextInt(d + 1);
            int l = random.nextInt(d + 1);
            same("third", x.third(i, j, l), y.third(i, j, l));
            same("root", x.root(i, 0), y.root(i, 0));
            same("times", x.root(i, 1), y.root(i, 1));
            same("walks", x.walks(i, 8), y.walks(i, 8));
            same("k(i)", x.entry(i, 3), y.entry(i, 3));
        }
    }
}
