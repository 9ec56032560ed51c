/** Promises 25 to 32. */
public final class NetsOfNetsTest {
    private static final Due DUE = new Due("NetsOfNetsTest");

    public static void main(String[] args) {
        fold();
        half();
        twice();
        power();
        other();
        lines();
        keepAndBack();
        DUE.end();
    }

    /** The roads of the net must be these pairs and no others. */
    private static void roadsAre(String of, LikeNets x, int... pairs) {
        DUE.is(of + ": how many", x.many(1), pairs.length / 2);
        for (int i = 0; i < pairs.length; i += 2) {
            DUE.is(of + ": " + pairs[i] + " " + pairs[i + 1], x.joined(pairs[i], pairs[i + 1]), true);
            DUE.is(of + ": " + pairs[i + 1] + " " + pairs[i], x.joined(pairs[i + 1], pairs[i]), true);
        }
    }

    private static void fold() {
        LikeNets x = new LikeNets();
        DUE.is("25: no posts", x.fold(), LikeNets.STATE);
        x.net(1);
        DUE.is("25: FAR is 0", x.fold(), LikeNets.STATE);
        x.net(2);
        DUE.is("25: parted", x.fold(), LikeNets.STATE);
        x.build(0, 5, 0);
        DUE.is("25: not folded", x.fold(), LikeNets.STATE);
        DUE.is("25: unchanged", x.many(0), 5);
        x.build(0, 8, 0);
        DUE.is("25: a ring of 8", x.fold(), 4);
        roadsAre("25: ring of 4", x, 0, 1, 1, 2, 2, 3, 3, 0);
        x.build(1, 7, 0);
        DUE.is("25: all joined", x.fold(), 1);
        roadsAre("25: one post", x);
        x = Nets.path(5);
        DUE.is("25: a path", x.fold(), 4);
        roadsAre("25: a path", x, 0, 1, 1, 2, 2, 3, 3, 0);
        x = Nets.path(6);
        // Post 0 stays alone as the ends are 5 and 1 then.
        x.road(0, 1, false);
        x.road(0, 3, true);
        DUE.is("25: a path with a branch", x.fold(), 5);
        roadsAre("25: numbered by least posts", x, 0, 3, 1, 2, 2, 3, 3, 4, 4, 1);
        x.build(2, 2, 5);
        DUE.is("25: words", x.fold(), 16);
        DUE.is("25: roads", x.many(1), 40);
        DUE.is("25: far", x.many(4), 2);
    }

    private static void half() {
        LikeNets x = new LikeNets();
        DUE.is("26: no posts", x.half(), LikeNets.STATE);
        x.net(2);
        DUE.is("26: parted", x.half(), LikeNets.STATE);
        x.build(0, 5, 0);
        DUE.is("26: no sides", x.half(), LikeNets.STATE);
        DUE.is("26: unchanged", x.many(0), 5);
        x.net(1);
        DUE.is("26: one post", x.half(), 1);
        x.build(0, 8, 0);
        DUE.is("26: a ring of 8", x.half(), 4);
        roadsAre("26: ring of 4", x, 0, 1, 1, 2, 2, 3, 3, 0);
        x = Nets.path(6);
        DUE.is("26: a path", x.half(), 3);
        roadsAre("26: a path", x, 0, 1, 1, 2);
        x.build(5, 2, 4);
        DUE.is("26: the side of post 0", x.half(), 2);
        x.net(4);
        x.road(0, 3, true);
        x.road(3, 1, true);
        x.road(3, 2, true);
        DUE.is("26: in order", x.half(), 3);
        roadsAre("26: all joined", x, 0, 1, 1, 2, 0, 2);
    }

    private static void twice() {
        LikeNets x = new LikeNets();
        DUE.is("27: no posts", x.twice(), 0);
        x.build(0, 3, 0);
        DUE.is("27: a ring of 3", x.twice(), 6);
        roadsAre("27: ring of 6", x, 0, 4, 0, 5, 1, 3, 1, 5, 2, 3, 2, 4);
        x.net(16);
        DUE.is("27: 16", x.twice(), 32);
        DUE.is("27: posts", x.many(0), 32);
        DUE.is("27: 32", x.twice(), LikeNets.FULL);
        x.net(17);
        DUE.is("27: 17", x.twice(), LikeNets.FULL);
        DUE.is("27: unchanged", x.many(0), 17);
    }

    private static void power() {
        LikeNets x = Nets.path(5);
        DUE.is("28: below", x.power(0), LikeNets.NUMBER);
        DUE.is("28: far below", x.power(Integer.MIN_VALUE), LikeNets.NUMBER);
        DUE.is("28: unchanged", x.many(1), 4);
        DUE.is("28: 1", x.power(1), 4);
        DUE.is("28: 2", x.power(2), 3);
        roadsAre("28: 2", x, 0, 2, 2, 4, 1, 3);
        DUE.is("28: beyond", x.power(32), 0);
        DUE.is("28: posts stay", x.many(0), 5);
        DUE.is("28: far beyond", x.power(Integer.MAX_VALUE), 0);
        x = Nets.path(32);
        DUE.is("28: 31", x.power(31), 1);
        roadsAre("28: 31", x, 0, 31);
    }

    private static void other() {
        LikeNets x = Nets.path(4);
        DUE.is("29: a path", x.other(), 3);
        roadsAre("29: a path", x, 0, 2, 0, 3, 1, 3);
        x.net(32);
        DUE.is("29: 32", x.other(), 496);
        DUE.is("29: and back", x.other(), 0);
        x.net(0);
        DUE.is("29: none", x.other(), 0);
    }

    private static void lines() {
        LikeNets x = new LikeNets();
        x.build(1, 4, 0);
        DUE.is("30: 4 joined", x.lines(), 6);
        // The roads in order: 01 02 03 12 13 23.
        roadsAre("30: 4 joined", x, 0, 1, 0, 2, 1, 2, 0, 3, 0, 4, 1, 3, 1, 5, 2, 4, 2, 5, 3, 4, 3, 5, 4, 5);
        x.build(0, 32, 0);
        DUE.is("30: 32 roads", x.lines(), 32);
        roadsAre("30: first and last of the ring", x, 0, 1, 0, 2, 2, 3, 3, 4, 4, 5, 5, 6, 6, 7, 7, 8, 8, 9, 9, 10,
            10, 11, 11, 12, 12, 13, 13, 14, 14, 15, 15, 16, 16, 17, 17, 18, 18, 19, 19, 20, 20, 21, 21, 22, 22, 23,
            23, 24, 24, 25, 25, 26, 26, 27, 27, 28, 28, 29, 29, 30, 30, 31, 31, 1);
        x.road(0, 16, true);
        DUE.is("30: 33 roads", x.lines(), LikeNets.FULL);
        DUE.is("30: unchanged", x.many(1), 33);
        x.net(9);
        DUE.is("30: no roads", x.lines(), 0);
        DUE.is("30: no posts", x.many(0), 0);
    }

    private static void keepAndBack() {
        LikeNets x = new LikeNets();
        DUE.is("32: nothing kept", x.back(), LikeNets.STATE);
        DUE.is("31: no posts", x.keep(), 1);
        x.net(4);
        DUE.is("32: no posts", x.back(), 1);
        DUE.is("32: posts", x.many(0), 0);
        x.build(0, 6, 0);
        DUE.is("31: a ring", x.keep(), 1);
        x.road(0, 1, false);
        DUE.is("31: what is kept does not change", x.many(1), 5);
        x.power(2);
        DUE.is("32: back", x.back(), 1);
        roadsAre("32: a ring", x, 0, 1, 1, 2, 2, 3, 3, 4, 4, 5, 5, 0);
        x.road(0, 3, true);
        DUE.is("32: it stays", x.back(), 1);
        DUE.is("32: as it was", x.joined(0, 3), false);
        x.build(1, 5, 0);
        x.keep();
        x.net(1);
        DUE.is("31: in place of it", x.back(), 1);
        DUE.is("31: the later one", x.many(1), 10);
    }
}
