import java.util.stream.IntStream;

/** Nets that several tests want and that no told making makes. */
final class Nets {
    private Nets() {
    }

    static LikeNets path(int n) {
        LikeNets x = new LikeNets();
        x.net(n);
        for (int p = 0; p + 1 < n; p++) {
            x.road(p, p + 1, true);
        }
        return x;
    }

    /** A new object with that table: the first d numbers are b(0) to b(d - 1), the rest c(1) to c(d). */
    static LikeNets told(int... numbers) {
        LikeNets x = new LikeNets();
        Edges.told(x, numbers);
        return x;
    }

    /** All POSTS of a heap are joined, heaps stand one after the other: the first POST beyond them. */
    static int heaps(LikeNets x, int from, int... sizes) {
        int at = from;
        for (int size : sizes) {
            for (int p = at; p < at + size; p++) {
                for (int q = p + 1; q < at + size; q++) {
                    x.road(p, q, true);
                }
            }
            at += size;
        }
        return at;
    }

    /** Such heaps, and then a ring of 4, which has no PERFECT HEAP by 1; three CASES show it. */
    static LikeNets heapsAndRing(int... sizes) {
        LikeNets x = new LikeNets();
        x.net(IntStream.of(sizes).sum() + 4);
        int at = heaps(x, 0, sizes);
        for (int i = 0; i < 4; i++) {
            x.road(at + i, at + (i + 1) % 4, true);
        }
        return x;
    }

    /** The POST that a number is once a SHEET of that kind has cast it, by a ROAD to POST 31; -1 if none. */
    static int cast(int kind, int v) {
        LikeNets x = new LikeNets();
        x.net(32);
        x.sheet(2, kind, 2);
        x.cell(2, 0, v);
        x.cell(2, 1, 31);
        if (x.load(2, 0, 1) != 1) {
            return -1;
        }
        for (int p = 0; p < 31; p++) {
            if (x.joined(p, 31)) {
                return p;
            }
        }
        return -1;
    }
}
