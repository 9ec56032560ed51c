import java.util.function.Supplier;

/** The boundary cases of promises 10 to 14, and of what 'Terms' says of THE NET. */
public final class WaysEdgesTest {
    private static final Due DUE = new Due("WaysEdgesTest");
    private static final Edges EDGES = new Edges(DUE);
    private static final int NUMBER = LikeNets.NUMBER;
    private static final int STATE = LikeNets.STATE;
    private static final int NEVER = LikeNets.NEVER;

    public static void main(String[] args) {
        wayRefusals();
        wayOfNone();
        wayEnds();
        manyOfAnotherWhat();
        manyWithoutPosts();
        manyOfOneOrTwoPosts();
        manyOfMostPosts();
        wholeOrNot();
        round();
        even();
        sides();
        folded();
        clashRefusals();
        clashEnds();
        tableRefusals();
        tableOrder();
        tableEnds();
        thirdsRefusals();
        thirdsEnds();
        DUE.end();
    }

    private static void wayRefusals() {
        EDGES.noPost("10: way", LikeNets::way);
    }

    private static void wayOfNone() {
        EDGES.refused("10: two POSTS without a WAY", Edges.busyWithNet(2), x -> x.way(0, 1), NEVER);
        EDGES.refused("10: the other way round", Edges.busyWithNet(2), x -> x.way(1, 0), NEVER);
        EDGES.refused("10: two parts", Edges.busyWithNet(4, 0, 1, 2, 3), x -> x.way(1, 2), NEVER);
        EDGES.refused("10: ends of 32", Edges.busyWithNet(32), x -> x.way(0, 31), NEVER);
        EDGES.refused("10: no POST ahead of no WAY", Edges.busyWithNet(2), x -> x.way(0, 2), NUMBER);
    }

    private static void wayEnds() {
        for (int n = 1; n <= 32; n++) {
            LikeNets x = Nets.path(n);
            DUE.is("10: the first and itself of " + n, x.way(0, 0), 0);
            DUE.is("10: the last and itself of " + n, x.way(n - 1, n - 1), 0);
            DUE.is("10: end to end of " + n, x.way(0, n - 1), n - 1);
            DUE.is("10: and back of " + n, x.way(n - 1, 0), n - 1);
            DUE.is("11: FAR of " + n, x.many(4), n - 1);
        }
    }

    private static void manyOfAnotherWhat() {
        for (int what : Edges.outside(0, 9)) {
            EDGES.refused("11: many(" + what + ")", Edges::busy, x -> x.many(what), -1);
            EDGES.refused("11: many(" + what + ") of nothing", LikeNets::new, x -> x.many(what), -1);
        }
    }

    private static void manyAre(LikeNets x, String of, int... due) {
        for (int what = 0; what < due.length; what++) {
            DUE.is("11: many(" + what + ") of " + of, x.many(what), due[what]);
        }
    }

    private static void manyWithoutPosts() {
        LikeNets x = Edges.busy();
        x.net(0);
        manyAre(x, "no POSTS", 0, 0, 0, 0, -1, 0, 1, 1, 0, 0);
    }

    private static void manyOfOneOrTwoPosts() {
        LikeNets x = new LikeNets();
        x.net(1);
        manyAre(x, "one POST", 1, 0, 1, 1, 0, 0, 1, 1, 0, 1);
        x.net(2);
        manyAre(x, "two POSTS", 2, 0, 2, 0, -1, 0, 1, 1, 0, 0);
        x.road(0, 1, true);
        manyAre(x, "two joined POSTS", 2, 1, 1, 1, 1, 0, 1, 1, 1, 1);
    }

    private static void manyOfMostPosts() {
        LikeNets x = new LikeNets();
        x.net(32);
        manyAre(x, "32 POSTS", 32, 0, 32, 0, -1, 0, 1, 1, 0, 0);
        x.other();
        manyAre(x, "32 joined POSTS", 32, 496, 1, 1, 1, 3, 1, 0, 1, 1);
        x.build(5, 16, 16);
        manyAre(x, "16 and 16", 32, 256, 1, 1, 2, 4, 1, 1, 1, 1);
        x.build(0, 32, 0);
        manyAre(x, "a ring of 32", 32, 32, 1, 1, 16, 32, 1, 1, 1, 1);
    }

    private static void wholeOrNot() {
        LikeNets x = Nets.path(32);
        DUE.is("11: WHOLE", x.many(3), 1);
        x.road(31, 30, false);
        DUE.is("11: the last one alone", x.many(3), 0);
        DUE.is("11: two heaps", x.many(2), 2);
        DUE.is("11: no FAR", x.many(4), -1);
        x.road(31, 30, true);
        x.road(0, 1, false);
        DUE.is("11: the first one alone", x.many(3), 0);
        DUE.is("11: again two heaps", x.many(2), 2);
        DUE.is("11: again no FAR", x.many(4), -1);
    }

    private static void round() {
        for (int n = 3; n <= 32; n++) {
            LikeNets x = Nets.path(n);
            DUE.is("11: no ring in a path of " + n, x.many(5), 0);
            x.road(0, n - 1, true);
            DUE.is("11: ROUND of a ring of " + n, x.many(5), n);
        }
        LikeNets x = new LikeNets();
        Edges.roads(x, 32, 29, 30, 30, 31, 31, 29);
        DUE.is("11: three at the end, not WHOLE", x.many(5), 3);
        Edges.roads(x, 32, 0, 1, 1, 2, 2, 3, 3, 0, 27, 28, 28, 29, 29, 30, 30, 31, 31, 27);
        DUE.is("11: the lesser of two", x.many(5), 4);
        x.build(5, 1, 31);
        DUE.is("11: a star has none", x.many(5), 0);
        Edges.roads(x, 4, 0, 1, 1, 2, 2, 3, 3, 0, 0, 2);
        DUE.is("11: a road across", x.many(5), 3);
    }

    private static void even() {
        LikeNets x = new LikeNets();
        x.build(0, 32, 0);
        DUE.is("11: EVEN", x.many(6), 1);
        x.road(30, 31, false);
        DUE.is("11: the last two have one ROAD less", x.many(6), 0);
        x.build(1, 32, 0);
        x.road(0, 1, false);
        DUE.is("11: the first two have one ROAD less", x.many(6), 0);
        Edges.roads(x, 4, 0, 1, 2, 3);
        DUE.is("11: EVEN, but not WHOLE", x.many(6), 1);
        for (int odd = 0; odd < 32; odd++) {
            x.net(32);
            x.road(odd, (odd + 1) % 32, true);
            x.road(odd, (odd + 31) % 32, true);
            DUE.is("11: three unlike about " + odd, x.many(6), 0);
        }
        for (int odd = 0; odd < 3; odd++) {
            Edges.roads(x, 3, odd, (odd + 1) % 3, odd, (odd + 2) % 3);
            DUE.is("11: but one is unlike, " + odd, x.many(6), 0);
        }
    }

    private static void sides() {
        for (int n = 3; n <= 32; n++) {
            LikeNets x = new LikeNets();
            x.build(0, n, 0);
            DUE.is("11: SIDES of a ring of " + n, x.many(7), 1 - n % 2);
        }
        LikeNets x = new LikeNets();
        Edges.roads(x, 32, 29, 30, 30, 31, 31, 29);
        DUE.is("11: three at the end", x.many(7), 0);
        x.road(31, 29, false);
        DUE.is("11: a path at the end", x.many(7), 1);
        Edges.roads(x, 6, 0, 1, 1, 2, 2, 0);
        DUE.is("11: three at the start", x.many(7), 0);
    }

    private static void folded() {
        LikeNets x = new LikeNets();
        for (int n = 3; n <= 32; n++) {
            x.build(0, n, 0);
            DUE.is("11: FOLDED ring of " + n, x.many(8), n == 3 || n % 2 == 0 ? 1 : 0);
        }
        x.net(1);
        DUE.is("11: FAR is 0", x.many(8), 0);
        x.build(1, 2, 0);
        DUE.is("11: FAR is 1", x.many(8), 1);
        x.build(1, 32, 0);
        DUE.is("11: FAR is 1, 32 POSTS", x.many(8), 1);
        DUE.is("11: FAR is 31", Nets.path(32).many(8), 1);
        Edges.roads(x, 4, 0, 1, 2, 3);
        DUE.is("11: not WHOLE", x.many(8), 0);
        // 3, 4 and 5 are at WAY FAR from 0, but not from one another.
        Edges.roads(x, 6, 0, 1, 1, 2, 2, 3, 2, 4, 2, 5);
        DUE.is("11: three at one end, one at the other", x.many(8), 0);
        // Of 0, 1 and 2 just 1 is at WAY FAR from the two others; then of 2, 3 and 4 just 3.
        Edges.roads(x, 5, 0, 3, 2, 3, 3, 4, 4, 1);
        DUE.is("11: neighbours by number alone", x.many(8), 0);
        Edges.roads(x, 5, 2, 0, 4, 0, 0, 1, 1, 3);
        DUE.is("11: the last ones by number alone", x.many(8), 0);
    }

    private static void clashRefusals() {
        for (int what : Edges.outside(0, 1)) {
            EDGES.refused("12: clash(" + what + ")", Edges::busy, x -> x.clash(what), NUMBER);
            EDGES.refused("12: " + what + " ahead of STATE", Edges.busyWithNet(0), x -> x.clash(what), NUMBER);
            EDGES.refused("12: " + what + " ahead of NEVER", Edges.busyWithNet(1), x -> x.clash(what), NUMBER);
        }
        for (int what = 0; what <= 1; what++) {
            int of = what;
            EDGES.refused("12: no POSTS", Edges.busyWithNet(0), x -> x.clash(of), STATE);
            EDGES.refused("12: two POSTS", Edges.busyWithNet(2), x -> x.clash(of), STATE);
            EDGES.refused("12: 32 POSTS", Edges.busyWithNet(32), x -> x.clash(of), STATE);
            EDGES.refused("12: not WHOLE and not EVEN", Edges.busyWithNet(3, 0, 1), x -> x.clash(of), STATE);
            EDGES.refused("12: one POST is LIKE", Edges.busyWithNet(1), x -> x.clash(of), NEVER);
            EDGES.refused("12: two joined are LIKE", Edges.busyWithNet(2, 0, 1), x -> x.clash(of), NEVER);
            EDGES.refused("12: 32 joined are LIKE", Edges.busyWithMaking(1, 32, 0), x -> x.clash(of), NEVER);
            EDGES.refused("12: a ring of 32 is LIKE", Edges.busyWithMaking(0, 32, 0), x -> x.clash(of), NEVER);
        }
    }

    private static void clashIs(String of, LikeNets x, int p, int q) {
        DUE.is("12: p of " + of, x.clash(0), p);
        DUE.is("12: q of " + of, x.clash(1), q);
    }

    private static void clashEnds() {
        clashIs("the least net that has one", Nets.path(3), 1, 0);
        LikeNets x = new LikeNets();
        Edges.roads(x, 4, 0, 1, 1, 2, 2, 0, 3, 2);
        clashIs("a ring of 3 with an arm at its last", x, 0, 2);
        clashIs("a path of 32", Nets.path(32), 1, 0);
        x.build(5, 31, 1);
        clashIs("a star about the last", x, 31, 0);
        x.build(5, 1, 31);
        clashIs("a star about the first", x, 1, 0);
    }

    private static void tableRefusals() {
        Supplier<LikeNets> ring = Edges.busyWithMaking(0, 32, 0);
        for (int what : Edges.outside(0, 3)) {
            EDGES.refused("13: what " + what, ring, x -> x.table(0, what), NUMBER);
        }
        for (int what = 0; what <= 3; what++) {
            int of = what;
            for (int i : Edges.outside(0, 16)) {
                EDGES.refused("13: i " + i + ", what " + what, ring, x -> x.table(i, of), NUMBER);
            }
            for (int i : Edges.outside(0, 0)) {
                EDGES.refused("13: one POST, i " + i, Edges.busyWithNet(1), x -> x.table(i, of), NUMBER);
            }
            EDGES.refused("13: no POSTS", Edges.busyWithNet(0), x -> x.table(0, of), STATE);
            EDGES.refused("13: not WHOLE", Edges.busyWithNet(2), x -> x.table(0, of), STATE);
            EDGES.refused("13: not LIKE", Edges::busy, x -> x.table(0, of), STATE);
        }
    }

    private static void tableOrder() {
        for (int i : Edges.outside(0, 2)) {
            EDGES.refused("13: STATE ahead of i " + i, Edges::busy, x -> x.table(i, 0), STATE);
            EDGES.refused("13: STATE ahead of i " + i, Edges.busyWithNet(0), x -> x.table(i, 3), STATE);
        }
        for (int what : Edges.outside(0, 3)) {
            EDGES.refused("13: what " + what + " ahead of STATE", Edges::busy, x -> x.table(0, what), NUMBER);
            EDGES.refused("13: what " + what + " ahead of all", Edges.busyWithNet(0), x -> x.table(-1, what), NUMBER);
        }
    }

    private static void tableIs(LikeNets x, String of, int[]... rows) {
        for (int i = 0; i < rows.length; i++) {
            for (int what = 0; what < 4; what++) {
                DUE.is("13: table(" + i + ", " + what + ") of " + of, x.table(i, what), rows[i][what]);
            }
        }
        DUE.is("13: no more rows of " + of, x.table(rows.length, 0), NUMBER);
    }

    private static void tableEnds() {
        LikeNets x = new LikeNets();
        x.net(1);
        tableIs(x, "one POST", new int[] {0, 0, 0, 1});
        x.build(1, 2, 0);
        tableIs(x, "two POSTS", new int[] {0, 0, 1, 1}, new int[] {1, 0, 0, 1});
        x.build(1, 32, 0);
        tableIs(x, "32 POSTS", new int[] {0, 0, 31, 1}, new int[] {1, 30, 0, 31});
        x.build(5, 16, 16);
        tableIs(x, "16 and 16", new int[] {0, 0, 16, 1}, new int[] {1, 0, 15, 16}, new int[] {16, 0, 0, 15});
        x.build(0, 32, 0);
        DUE.is("13: c(16) of a ring of 32", x.table(16, 0), 2);
        DUE.is("13: b(16) is 0", x.table(16, 2), 0);
        DUE.is("13: k(16)", x.table(16, 3), 1);
        DUE.is("13: b(15)", x.table(15, 2), 1);
        x.build(0, 31, 0);
        DUE.is("13: a(15) of a ring of 31", x.table(15, 1), 1);
        DUE.is("13: no row 16 of it", x.table(16, 1), NUMBER);
    }

    private static void thirdsRefusals() {
        EDGES.noPost("14: thirds at 0", (x, p, q) -> x.thirds(p, q, 0, 0));
        EDGES.noPost("14: thirds at 1", (x, p, q) -> x.thirds(p, q, 1, 1));
        for (int below : new int[] {-1, -2, -31, -32, Edges.LEAST}) {
            EDGES.refused("14: j is " + below, Edges::busy, x -> x.thirds(1, 2, below, 0), NUMBER);
            EDGES.refused("14: l is " + below, Edges::busy, x -> x.thirds(1, 2, 0, below), NUMBER);
        }
    }

    private static void thirdsEnds() {
        LikeNets x = Nets.path(32);
        DUE.is("14: both at 0 of one", x.thirds(31, 31, 0, 0), 1);
        DUE.is("14: both at 0 of two", x.thirds(0, 31, 0, 0), 0);
        DUE.is("14: the greatest WAY", x.thirds(0, 31, 31, 0), 1);
        DUE.is("14: the greatest WAY back", x.thirds(0, 31, 0, 31), 1);
        DUE.is("14: the greatest WAY of one", x.thirds(0, 0, 31, 31), 1);
        for (int beyond : new int[] {32, 33, 63, 64, 1024, Edges.GREATEST}) {
            DUE.is("14: j is " + beyond, x.thirds(0, 0, beyond, 0), 0);
            DUE.is("14: l is " + beyond, x.thirds(0, 0, 0, beyond), 0);
            DUE.is("14: both are " + beyond, x.thirds(31, 31, beyond, beyond), 0);
        }
        x.net(32);
        DUE.is("14: POSTS without a WAY count nowhere", x.thirds(0, 31, 0, 1), 0);
        DUE.is("14: one alone", x.thirds(31, 31, 0, 0), 1);
        x.other();
        DUE.is("14: as many as may be", x.thirds(0, 0, 1, 1), 31);
        DUE.is("14: all but two", x.thirds(0, 31, 1, 1), 30);
    }
}
