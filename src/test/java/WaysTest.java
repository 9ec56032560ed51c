/** Promises 10 to 14. */
public final class WaysTest {
    private static final Due DUE = new Due("WaysTest");

    public static void main(String[] args) {
        way();
        many();
        rings();
        folded();
        clash();
        table();
        thirds();
        DUE.end();
    }

    private static void way() {
        LikeNets x = Nets.path(32);
        DUE.is("10: end to end", x.way(0, 31), 31);
        DUE.is("10: back", x.way(31, 0), 31);
        DUE.is("10: itself", x.way(5, 5), 0);
        DUE.is("10: p below", x.way(-1, 0), LikeNets.NUMBER);
        DUE.is("10: q above", x.way(0, 32), LikeNets.NUMBER);
        x.road(31, 0, true);
        DUE.is("10: after a road", x.way(0, 31), 1);
        DUE.is("10: half round", x.way(0, 16), 16);
        x.road(0, 1, false);
        x.road(16, 17, false);
        DUE.is("10: none", x.way(0, 1), LikeNets.NEVER);
        DUE.is("10: still one", x.way(1, 16), 15);
    }

    private static void manyAre(LikeNets x, String of, int... due) {
        for (int what = 0; what < due.length; what++) {
            DUE.is("11: many(" + what + ") of " + of, x.many(what), due[what]);
        }
    }

    private static void many() {
        LikeNets x = new LikeNets();
        manyAre(x, "nothing", 0, 0, 0, 0, -1, 0, 1, 1, 0, 0);
        DUE.is("11: many(-1)", x.many(-1), -1);
        DUE.is("11: many(10)", x.many(10), -1);
        x.net(1);
        manyAre(x, "one post", 1, 0, 1, 1, 0, 0, 1, 1, 0, 1);
        x.net(3);
        manyAre(x, "three posts", 3, 0, 3, 0, -1, 0, 1, 1, 0, 0);
        x.road(0, 2, true);
        manyAre(x, "a road and a post", 3, 1, 2, 0, -1, 0, 0, 1, 0, 0);
        x.build(1, 5, 0);
        manyAre(x, "all joined", 5, 10, 1, 1, 1, 3, 1, 0, 1, 1);
        x.build(2, 2, 5);
        manyAre(x, "words", 32, 80, 1, 1, 5, 4, 1, 1, 1, 1);
        x.build(4, 5, 2);
        manyAre(x, "sets", 10, 15, 1, 1, 2, 5, 1, 0, 0, 1);
        x.build(5, 2, 3);
        manyAre(x, "two heaps", 5, 6, 1, 1, 2, 4, 0, 1, 1, 0);
        x.build(0, 32, 0);
        manyAre(x, "a ring", 32, 32, 1, 1, 16, 32, 1, 1, 1, 1);
        x.build(0, 31, 0);
        manyAre(x, "an odd ring", 31, 31, 1, 1, 15, 31, 1, 0, 0, 1);
        manyAre(Nets.path(32), "a path", 32, 31, 1, 1, 31, 0, 0, 1, 1, 0);
    }

    private static void rings() {
        LikeNets x = Nets.path(8);
        x.road(0, 2, true);
        DUE.is("11: ring of 3 beside a path", x.many(5), 3);
        x.road(0, 2, false);
        x.road(3, 7, true);
        DUE.is("11: ring of 5 at the end", x.many(5), 5);
        x.road(0, 3, true);
        DUE.is("11: and one of 4", x.many(5), 4);
        DUE.is("11: with an odd ring no sides", x.many(7), 0);
        x.road(3, 7, false);
        DUE.is("11: without it sides", x.many(7), 1);
        x.road(6, 7, false);
        DUE.is("11: a ring in a parted net", x.many(5), 4);
        x = new LikeNets();
        x.net(9);
        x.road(6, 7, true);
        x.road(7, 8, true);
        x.road(8, 6, true);
        DUE.is("11: an odd ring far from post 0", x.many(7), 0);
        DUE.is("11: pieces", x.many(2), 7);
    }

    private static void folded() {
        DUE.is("11: a path of 3", Nets.path(3).many(8), 1);
        LikeNets x = new LikeNets();
        x.build(0, 5, 0);
        DUE.is("11: a ring of 5", x.many(8), 0);
        x.build(0, 6, 0);
        DUE.is("11: a ring of 6", x.many(8), 1);
        x.build(5, 1, 4);
        DUE.is("11: a star", x.many(8), 1);
        DUE.is("11: a star is not even", x.many(6), 0);
        // Two posts at the way 3 from post 0, but 2 from one another; then the same about post 1.
        x.net(5);
        x.road(0, 1, true);
        x.road(1, 2, true);
        x.road(2, 3, true);
        x.road(2, 4, true);
        DUE.is("11: a fork away from post 0", x.many(8), 0);
        x.net(5);
        x.road(1, 3, true);
        x.road(3, 4, true);
        x.road(4, 0, true);
        x.road(4, 2, true);
        DUE.is("11: a fork away from post 1", x.many(8), 0);
        x.build(2, 3, 2);
        DUE.is("11: words of 2 of 3", x.many(8), 0);
        x.net(2);
        DUE.is("11: two posts", x.many(8), 0);
    }

    private static void clash() {
        LikeNets x = Nets.path(5);
        DUE.is("12: what below", x.clash(-1), LikeNets.NUMBER);
        DUE.is("12: what above", x.clash(2), LikeNets.NUMBER);
        DUE.is("12: p", x.clash(0), 1);
        DUE.is("12: q", x.clash(1), 0);
        x.net(0);
        DUE.is("12: no posts", x.clash(0), LikeNets.STATE);
        DUE.is("12: what ahead of state", x.clash(2), LikeNets.NUMBER);
        x.net(2);
        DUE.is("12: parted", x.clash(1), LikeNets.STATE);
        x.road(0, 1, true);
        DUE.is("12: like", x.clash(0), LikeNets.NEVER);
        // A ring of 4 with one road across: 0 and 2 at way 2 have two, and roads differ from post 0 on.
        x.build(0, 4, 0);
        x.road(0, 2, true);
        DUE.is("12: across p", x.clash(0), 0);
        DUE.is("12: across q", x.clash(1), 2);
        // A prism: all posts have 3 roads, yet some roads lie in rings of 3 and some do not.
        x.build(0, 3, 0);
        x.net(6);
        int[] roads = {0, 1, 1, 2, 2, 0, 3, 4, 4, 5, 5, 3, 0, 3, 1, 4, 2, 5};
        for (int i = 0; i < roads.length; i += 2) {
            x.road(roads[i], roads[i + 1], true);
        }
        DUE.is("12: prism p", x.clash(0), 0);
        DUE.is("12: prism q", x.clash(1), 3);
    }

    private static void table() {
        LikeNets x = new LikeNets();
        DUE.is("13: no posts", x.table(0, 0), LikeNets.STATE);
        DUE.is("13: what ahead of state", x.table(0, 4), LikeNets.NUMBER);
        x.build(2, 3, 3);
        int[][] due = {{0, 0, 6, 1}, {1, 1, 4, 6}, {2, 2, 2, 12}, {3, 3, 0, 8}};
        for (int i = 0; i < due.length; i++) {
            for (int what = 0; what < 4; what++) {
                DUE.is("13: table(" + i + ", " + what + ")", x.table(i, what), due[i][what]);
            }
        }
        DUE.is("13: i below", x.table(-1, 0), LikeNets.NUMBER);
        DUE.is("13: i above", x.table(4, 0), LikeNets.NUMBER);
        DUE.is("13: what below", x.table(0, -1), LikeNets.NUMBER);
        DUE.is("13: what above", x.table(0, 4), LikeNets.NUMBER);
        x.road(0, 1, false);
        DUE.is("13: not like", x.table(9, 0), LikeNets.STATE);
        x.net(1);
        DUE.is("13: one post c", x.table(0, 0), 0);
        DUE.is("13: one post a", x.table(0, 1), 0);
        DUE.is("13: one post b", x.table(0, 2), 0);
        DUE.is("13: one post k", x.table(0, 3), 1);
        DUE.is("13: one post i", x.table(1, 3), LikeNets.NUMBER);
        x.build(0, 32, 0);
        DUE.is("13: the last of a ring", x.table(16, 0), 2);
        DUE.is("13: how many there", x.table(16, 3), 1);
    }

    private static void thirds() {
        LikeNets x = Nets.path(5);
        DUE.is("14: p below", x.thirds(-1, 0, 0, 0), LikeNets.NUMBER);
        DUE.is("14: q above", x.thirds(0, 5, 0, 0), LikeNets.NUMBER);
        DUE.is("14: j below", x.thirds(0, 0, -1, 0), LikeNets.NUMBER);
        DUE.is("14: l below", x.thirds(0, 0, 0, -1), LikeNets.NUMBER);
        DUE.is("14: between", x.thirds(1, 3, 1, 1), 1);
        DUE.is("14: beside", x.thirds(1, 3, 1, 3), 1);
        DUE.is("14: in that order", x.thirds(1, 2, 2, 1), 1);
        DUE.is("14: the other order", x.thirds(1, 2, 1, 0), 1);
        DUE.is("14: itself", x.thirds(2, 2, 1, 1), 2);
        DUE.is("14: far", x.thirds(0, 1, 31, 32), 0);
        DUE.is("14: farthest", x.thirds(0, 1, Integer.MAX_VALUE, Integer.MAX_VALUE), 0);
        x.road(1, 2, false);
        DUE.is("14: a post without a way", x.thirds(0, 4, 1, 1), 0);
        x.build(2, 2, 5);
        DUE.is("14: words", x.thirds(0, 31, 2, 3), 10);
    }
}
