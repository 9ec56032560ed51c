/** Promises 15 to 24. */
public final class ToldTableTest {
    private static final Due DUE = new Due("ToldTableTest");

    public static void main(String[] args) {
        tell();
        put();
        take();
        laws();
        entry();
        posts();
        third();
        root();
        walks();
        bound();
        DUE.end();
    }

    private static void breaks(int law, int... numbers) {
        DUE.is("18: can() of " + java.util.Arrays.toString(numbers), Nets.told(numbers).can(), law);
    }

    private static void tell() {
        LikeNets x = Nets.told(3, 2, 1, 1);
        DUE.is("15: below", x.tell(0), LikeNets.NUMBER);
        DUE.is("15: above", x.tell(6), LikeNets.NUMBER);
        DUE.is("15: least", x.tell(Integer.MIN_VALUE), LikeNets.NUMBER);
        DUE.is("15: unchanged", x.posts(), 10);
        DUE.is("15: 5", x.tell(5), 1);
        DUE.is("15: b is 1 with c 1, so a below 0", x.can(), 2);
        DUE.is("15: 1", x.tell(1), 1);
        DUE.is("15: b(0)", x.entry(0, 2), 1);
        DUE.is("15: c(1)", x.entry(1, 0), 1);
        DUE.is("15: LENGTH", x.entry(2, 0), LikeNets.NUMBER);
        x.tell(2);
        x.put(0, 0, 2);
        DUE.is("15: all 1 again", x.posts(), 5);
    }

    private static void put() {
        LikeNets x = Nets.told(3, 2, 1, 1);
        DUE.is("16: what below", x.put(-1, 0, 1), LikeNets.NUMBER);
        DUE.is("16: what above", x.put(2, 1, 1), LikeNets.NUMBER);
        DUE.is("16: v below", x.put(0, 0, -1), LikeNets.NUMBER);
        DUE.is("16: v above", x.put(1, 1, 21), LikeNets.NUMBER);
        DUE.is("16: b below", x.put(0, -1, 1), LikeNets.NUMBER);
        DUE.is("16: b above", x.put(0, 2, 1), LikeNets.NUMBER);
        DUE.is("16: c below", x.put(1, 0, 1), LikeNets.NUMBER);
        DUE.is("16: c above", x.put(1, 3, 1), LikeNets.NUMBER);
        DUE.is("16: unchanged", x.posts(), 10);
        DUE.is("16: b 0", x.put(0, 1, 0), 1);
        DUE.is("16: law", x.can(), 1);
        DUE.is("16: b 20", x.put(0, 0, 20), 1);
        DUE.is("16: b", x.put(0, 1, 9), 1);
        DUE.is("16: c", x.put(1, 2, 20), 1);
        DUE.is("16: k", x.entry(1, 3), 20);
        DUE.is("16: k(2)", x.entry(2, 3), 9);
        DUE.is("16: a(1)", x.entry(1, 1), 10);
        DUE.is("16: a lesser c", x.put(1, 2, 10), 1);
        DUE.is("16: k(2) with it", x.entry(2, 3), 18);
        DUE.is("16: a(2) with it", x.entry(2, 1), 10);
        DUE.is("16: a lesser b", x.put(0, 1, 5), 1);
        DUE.is("16: k(2) with both", x.entry(2, 3), 10);
    }

    private static void take() {
        LikeNets x = Nets.told(3, 2, 1, 1);
        DUE.is("17: no posts", x.take(), LikeNets.STATE);
        x.net(1);
        DUE.is("17: FAR is 0", x.take(), LikeNets.STATE);
        x.build(0, 12, 0);
        DUE.is("17: FAR is 6", x.take(), LikeNets.STATE);
        x.build(1, 22, 0);
        DUE.is("17: b is 21", x.take(), LikeNets.STATE);
        x.build(5, 2, 3);
        DUE.is("17: not like", x.take(), LikeNets.STATE);
        DUE.is("17: unchanged", x.posts(), 10);
        x.build(1, 21, 0);
        DUE.is("17: b is 20", x.take(), 1);
        DUE.is("17: taken", x.entry(0, 2), 20);
        x.build(0, 11, 0);
        DUE.is("17: FAR is 5", x.take(), 5);
        DUE.is("17: c(5)", x.entry(5, 0), 1);
        DUE.is("17: a(5)", x.entry(5, 1), 1);
        DUE.is("17: b(4)", x.entry(4, 2), 1);
        x.net(0);
        DUE.is("17: it stays", x.posts(), 11);
        // A heap of 2, 11 times, each two of different heaps joined: b(0) 20, b(1) 1, c(2) 20.
        x.net(22);
        for (int p = 0; p < 22; p++) {
            for (int q = p + 1; q < 22; q++) {
                x.road(p, q, p / 2 != q / 2);
            }
        }
        DUE.is("17: c is 20", x.take(), 2);
        DUE.is("17: c(2)", x.entry(2, 0), 20);
    }

    private static void laws() {
        breaks(1, 0, 1);
        breaks(1, 3, 0);
        breaks(1, 3, 2);
        breaks(1, 3, 0, 1, 1);
        breaks(1, 3, 2, 1, 0);
        breaks(2, 3, 3, 1, 1);
        breaks(2, 3, 1, 1, 4);
        breaks(3, 4, 1, 1, 1, 3, 2);
        breaks(3, 5, 1, 2, 1, 2, 2);
        breaks(0, 2, 1, 1, 1, 1, 1);
        breaks(4, 4, 1, 1, 3);
        breaks(4, 19, 18, 18, 18, 1, 1, 1, 1);
        // 100001 posts; no table that keeps laws 1 to 3 has 100000.
        breaks(4, 20, 18, 17, 11, 7, 1, 1, 1, 1, 18);
        breaks(0, 20, 19, 19, 19, 1, 1, 1, 20);
        breaks(5, 7, 6, 1, 2);
        // POSTS 1 + 3 + 3 + 1 is even, but k(1) a(1) is 3.
        breaks(5, 3, 1, 1, 1, 1, 3);
        breaks(6, 4, 1, 1, 2);
        breaks(6, 6, 1, 1, 3);
        // Here none is below 0, but some are not whole.
        breaks(6, 4, 3, 1, 1, 2, 3);
        breaks(6, 5, 4, 2, 1, 2, 5);
        breaks(7, 4, 2, 1, 4);
        breaks(7, 7, 4, 1, 1);
        breaks(0, 5, 4, 1, 1);
        breaks(0, 3, 2, 1, 1);
        breaks(0, 7, 6, 1, 1);
        breaks(0, 1, 1);
        breaks(0, 20, 1);
        // A c above the next one breaks law 3 ahead of law 4, and a below 0 law 2 ahead of law 3.
        breaks(3, 6, 3, 2, 1, 3, 2);
        breaks(2, 3, 3, 2, 1, 2, 1);
    }

    private static void entry() {
        LikeNets x = Nets.told(4, 3, 3, 1, 1, 2);
        int[][] due = {{0, 0, 4, 1}, {1, 0, 3, 4}, {1, 0, 3, 12}, {2, 2, 0, 18}};
        for (int i = 0; i < due.length; i++) {
            for (int what = 0; what < 4; what++) {
                DUE.is("19: entry(" + i + ", " + what + ")", x.entry(i, what), due[i][what]);
            }
        }
        DUE.is("19: what below", x.entry(0, -1), LikeNets.NUMBER);
        DUE.is("19: what above", x.entry(0, 4), LikeNets.NUMBER);
        DUE.is("19: i below", x.entry(-1, 0), LikeNets.NUMBER);
        DUE.is("19: i above", x.entry(4, 0), LikeNets.NUMBER);
        x = Nets.told(4, 1, 1, 3);
        DUE.is("19: law 4", x.entry(0, 0), LikeNets.LAW);
        DUE.is("19: number ahead of law", x.entry(3, 0), LikeNets.NUMBER);
        x = Nets.told(7, 6, 1, 2);
        DUE.is("19: law 5 does not count", x.entry(2, 3), 21);
    }

    private static void posts() {
        DUE.is("20: law 1", Nets.told(0, 1).posts(), LikeNets.LAW);
        DUE.is("20: law 2", Nets.told(3, 3, 1, 1).posts(), LikeNets.LAW);
        DUE.is("20: law 3", Nets.told(4, 1, 1, 1, 3, 2).posts(), LikeNets.LAW);
        DUE.is("20: law 4", Nets.told(4, 1, 1, 3).posts(), LikeNets.LAW);
        DUE.is("20: law 5", Nets.told(7, 6, 1, 2).posts(), 29);
        DUE.is("20: 35", Nets.told(4, 3, 3, 1, 1, 2).posts(), 35);
        DUE.is("20: near the most", Nets.told(18, 17, 17, 17, 1, 1, 1, 1).posts(), 1 + 18 + 306 + 5202 + 88434);
        DUE.is("20: above the most", Nets.told(19, 18, 18, 18, 1, 1, 1, 1).posts(), LikeNets.LAW);
    }

    private static void third() {
        LikeNets x = Nets.told(3, 2, 1, 1);
        DUE.is("21: i below", x.third(-1, 0, 0), LikeNets.NUMBER);
        DUE.is("21: j above", x.third(0, 3, 0), LikeNets.NUMBER);
        DUE.is("21: l above", x.third(0, 0, 3), LikeNets.NUMBER);
        int[][][] due = {
            {{1, 0, 0}, {0, 3, 0}, {0, 0, 6}},
            {{0, 1, 0}, {1, 0, 2}, {0, 2, 4}},
            {{0, 0, 1}, {0, 1, 2}, {1, 2, 3}},
        };
        for (int i = 0; i < 3; i++) {
            for (int j = 0; j < 3; j++) {
                for (int l = 0; l < 3; l++) {
                    DUE.is("21: third(" + i + ", " + j + ", " + l + ")", x.third(i, j, l), due[i][j][l]);
                }
            }
        }
        DUE.is("21: law 5", Nets.told(7, 6, 1, 2).third(0, 0, 0), LikeNets.LAW);
        DUE.is("21: law 6", Nets.told(4, 1, 1, 2).third(0, 0, 0), LikeNets.LAW);
        DUE.is("21: number ahead of law", Nets.told(4, 1, 1, 2).third(0, 0, 3), LikeNets.NUMBER);
        DUE.is("21: law 7 does not count", Nets.told(4, 2, 1, 4).third(1, 1, 0), 1);
    }

    private static void root() {
        LikeNets x = Nets.told(4, 3, 2, 1, 1, 2, 3, 4);
        int[] roots = {4, 2, 0, -2, -4};
        int[] times = {1, 4, 6, 4, 1};
        for (int i = 0; i < 5; i++) {
            DUE.is("22: root(" + i + ", 0)", x.root(i, 0), roots[i]);
            DUE.is("22: root(" + i + ", 1)", x.root(i, 1), times[i]);
        }
        DUE.is("22: below", x.root(-1, 0), -1002);
        DUE.is("22: above", x.root(5, 1), -1002);
        DUE.is("22: what below", x.root(0, -1), -1000);
        DUE.is("22: what above", x.root(9, 2), -1000);
        DUE.is("22: law", Nets.told(4, 1, 1, 2).root(0, 0), -1001);
        DUE.is("22: what ahead of law", Nets.told(4, 1, 1, 2).root(0, 2), -1000);
        DUE.is("22: law ahead of none", Nets.told(4, 1, 1, 2).root(9, 0), -1001);
        x = Nets.told(7, 6, 1, 1);
        DUE.is("22: 7", x.root(0, 0), 7);
        DUE.is("22: 2", x.root(1, 0), 2);
        DUE.is("22: 2 counts", x.root(1, 1), 28);
        DUE.is("22: -3", x.root(2, 0), -3);
        DUE.is("22: -3 counts", x.root(2, 1), 21);
        // Law 7 alone is broken: 7 posts divided by 3 / 2 for 0, and by 21 / 4 for -3.
        x = Nets.told(4, 2, 1, 4);
        DUE.is("22: 4 counts", x.root(0, 1), 1);
        DUE.is("22: 0", x.root(1, 0), 0);
        DUE.is("22: 0 counts no whole times", x.root(1, 1), -1);
        DUE.is("22: -3, too", x.root(2, 0), -3);
        DUE.is("22: -3 counts no whole times", x.root(2, 1), -1);
        x = Nets.told(5, 4, 1, 1);
        DUE.is("22: 5", x.root(0, 0), 5);
        DUE.is("22: the others are not whole", x.root(1, 0), -1002);
    }

    private static void walks() {
        LikeNets x = Nets.told(3, 2, 1, 1);
        DUE.is("23: i below", x.walks(-1, 0), LikeNets.NUMBER);
        DUE.is("23: i above", x.walks(3, 0), LikeNets.NUMBER);
        DUE.is("23: m below", x.walks(0, -1), LikeNets.NUMBER);
        DUE.is("23: m above", x.walks(0, 9), LikeNets.NUMBER);
        DUE.is("23: none", x.walks(0, 0), 1);
        DUE.is("23: none to another", x.walks(1, 0), 0);
        DUE.is("23: one", x.walks(1, 1), 1);
        DUE.is("23: to and fro", x.walks(0, 2), 3);
        DUE.is("23: 8", x.walks(0, 8), 759);
        DUE.is("23: 5", x.walks(2, 5), 22);
        DUE.is("23: law 4", Nets.told(4, 1, 1, 3).walks(0, 0), LikeNets.LAW);
        DUE.is("23: number ahead of law", Nets.told(4, 1, 1, 3).walks(0, 9), LikeNets.NUMBER);
        DUE.is("23: law 5 does not count", Nets.told(7, 6, 1, 2).walks(0, 2), 7);
        x = Nets.told(20, 1);
        // (20^8 + 20) / 21 is the count of closed walks with all of 21 posts joined.
        DUE.is("23: beyond ints", x.walks(0, 8), (25600000000L + 20) / 21);
    }

    private static void bound() {
        LikeNets x = new LikeNets();
        DUE.is("24: k below", x.bound(0, 1), LikeNets.NUMBER);
        DUE.is("24: k above", x.bound(61, 1), LikeNets.NUMBER);
        DUE.is("24: d below", x.bound(1, 0), LikeNets.NUMBER);
        DUE.is("24: d above", x.bound(1, 7), LikeNets.NUMBER);
        DUE.is("24: 1 6", x.bound(1, 6), 2);
        DUE.is("24: 2 6", x.bound(2, 6), 13);
        DUE.is("24: 3 2", x.bound(3, 2), 10);
        DUE.is("24: 7 2", x.bound(7, 2), 50);
        DUE.is("24: 57 2", x.bound(57, 2), 3250);
        DUE.is("24: 60 1", x.bound(60, 1), 61);
        DUE.is("24: 60 6", x.bound(60, 6), 43635034801L);
    }
}
