/** What follows from a table alone must be what one counts in a like net that has it. */
public final class LikeTablesTest {
    private static final Due DUE = new Due("LikeTablesTest");
    private static final int[][] MAKINGS = {
        {0, 3, 0}, {0, 4, 0}, {0, 5, 0}, {0, 9, 0}, {0, 10, 0}, {0, 11, 0}, {1, 2, 0}, {1, 7, 0}, {1, 21, 0},
        {2, 2, 2}, {2, 2, 3}, {2, 2, 4}, {2, 2, 5}, {2, 3, 2}, {2, 3, 3}, {2, 4, 2}, {2, 5, 2},
        {3, 5, 2}, {3, 6, 2}, {3, 6, 3}, {3, 7, 2}, {3, 8, 2}, {4, 5, 2}, {4, 6, 2}, {4, 7, 2}, {4, 8, 2},
        {5, 2, 2}, {5, 3, 3}, {5, 16, 16},
    };

    public static void main(String[] args) {
        for (int[] making : MAKINGS) {
            LikeNets x = taken(making);
            String of = java.util.Arrays.toString(making);
            DUE.is(of + " take", x.take(), x.many(4));
            DUE.is(of + " can", x.can(), 0);
            DUE.is(of + " posts", x.posts(), x.many(0));
            DUE.is(of + " kinds", x.kinds(), x.many(4) + 1);
            rows(x, of);
            roots(x, of);
            walks(making, of);
            for (int q = 0; q < x.many(0); q++) {
                thirds(taken(making), of, q);
            }
        }
        DUE.end();
    }

    /** A new object each time, as the calls on one are limited. */
    private static LikeNets taken(int[] making) {
        LikeNets x = new LikeNets();
        x.build(making[0], making[1], making[2]);
        x.take();
        return x;
    }

    private static void rows(LikeNets x, String of) {
        for (int i = 0; i <= x.many(4); i++) {
            for (int what = 0; what < 4; what++) {
                DUE.is(of + " entry", x.entry(i, what), x.table(i, what));
            }
        }
    }

    private static void thirds(LikeNets x, String of, int q) {
        int far = x.many(4);
        int i = x.way(0, q);
        for (int j = 0; j <= far; j++) {
            for (int l = 0; l <= far; l++) {
                DUE.is(of + " third", x.third(i, j, l), x.thirds(0, q, j, l));
            }
        }
    }

    private static void walks(int[] making, String of) {
        int n = taken(making).many(0);
        long[] walks = new long[n];
        walks[0] = 1;
        for (int m = 0; m <= 8; m++) {
            LikeNets x = taken(making);
            for (int q = 0; q < n; q++) {
                DUE.is(of + " walks", x.walks(x.way(0, q), m), walks[q]);
            }
            walks = onward(making, walks);
        }
    }

    private static long[] onward(int[] making, long[] walks) {
        long[] next = new long[walks.length];
        for (int p = 0; p < walks.length; p++) {
            LikeNets x = taken(making);
            for (int q = 0; q < walks.length; q++) {
                next[q] += x.joined(p, q) ? walks[p] : 0;
            }
        }
        return next;
    }

    /** Where all roots are whole they count all posts, and with their powers the closed walks. */
    private static void roots(LikeNets x, String of) {
        if (x.root(x.many(4), 0) == -1002) {
            return;
        }
        for (int m = 0; m <= 8; m++) {
            long sum = 0;
            for (int i = 0; i <= x.many(4); i++) {
                long power = x.root(i, 1);
                for (int t = 0; t < m; t++) {
                    power *= x.root(i, 0);
                }
                sum += power;
            }
            DUE.is(of + " roots to the power of " + m, sum, x.walks(0, m) * x.posts());
        }
    }
}
