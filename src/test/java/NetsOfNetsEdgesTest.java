import java.util.function.Supplier;

/** The boundary cases of promises 25 to 32. */
public final class NetsOfNetsEdgesTest {
    private static final Due DUE = new Due("NetsOfNetsEdgesTest");
    private static final Edges EDGES = new Edges(DUE);
    private static final int STATE = LikeNets.STATE;
    private static final int FULL = LikeNets.FULL;

    public static void main(String[] args) {
        foldRefusals();
        foldEnds();
        halfRefusals();
        halfEnds();
        twiceRefusals();
        twiceEnds();
        powerRefusals();
        powerEnds();
        otherEnds();
        linesRefusals();
        linesEnds();
        keepEnds();
        backRefusals();
        backEnds();
        DUE.end();
    }

    /** The net has so many posts, and these pairs are its roads and no others. */
    private static void netIs(String of, LikeNets x, int posts, int... pairs) {
        DUE.is(of + ": POSTS", x.many(0), posts);
        DUE.is(of + ": ROADS", x.many(1), pairs.length / 2);
        for (int i = 0; i + 1 < pairs.length; i += 2) {
            DUE.is(of + ": " + pairs[i] + " " + pairs[i + 1], x.joined(pairs[i], pairs[i + 1]), true);
        }
    }

    private static void foldRefusals() {
        EDGES.refused("25: no POSTS", Edges.busyWithNet(0), LikeNets::fold, STATE);
        EDGES.refused("25: FAR is 0", Edges.busyWithNet(1), LikeNets::fold, STATE);
        EDGES.refused("25: two parts", Edges.busyWithNet(2), LikeNets::fold, STATE);
        EDGES.refused("25: two parts of two", Edges.busyWithNet(4, 0, 1, 2, 3), LikeNets::fold, STATE);
        EDGES.refused("25: 32 parts", Edges.busyWithNet(32), LikeNets::fold, STATE);
        EDGES.refused("25: a ring of 5", Edges.busyWithMaking(0, 5, 0), LikeNets::fold, STATE);
        EDGES.refused("25: a ring of 31", Edges.busyWithMaking(0, 31, 0), LikeNets::fold, STATE);
        EDGES.refused("25: a fork at the end", Edges.busyWithNet(5, 0, 1, 1, 2, 2, 3, 2, 4), LikeNets::fold, STATE);
        EDGES.refused("25: a fork at the start", Edges.busyWithNet(5, 0, 2, 1, 2, 2, 3, 3, 4), LikeNets::fold, STATE);
    }

    private static void foldEnds() {
        LikeNets x = new LikeNets();
        x.build(1, 2, 0);
        DUE.is("25: two POSTS", x.fold(), 1);
        netIs("25: two POSTS", x, 1);
        x.build(1, 32, 0);
        DUE.is("25: 32 joined", x.fold(), 1);
        netIs("25: 32 joined", x, 1);
        x.build(5, 16, 16);
        DUE.is("25: 16 and 16", x.fold(), 2);
        netIs("25: 16 and 16", x, 2, 0, 1);
        x.build(5, 1, 31);
        DUE.is("25: a star", x.fold(), 2);
        netIs("25: a star", x, 2, 0, 1);
        x = Nets.path(32);
        DUE.is("25: a path of 32", x.fold(), 31);
        DUE.is("25: the ends are one now", x.joined(0, 30) && x.joined(0, 1), true);
        DUE.is("25: a ring of 31", x.many(5), 31);
        x.build(0, 32, 0);
        DUE.is("25: a ring of 32", x.fold(), 16);
        DUE.is("25: a ring of 16", x.many(5), 16);
        DUE.is("25: its last and first", x.joined(15, 0), true);
        // The POSTS at WAY FAR are 0 and 3 alone, and the others have none: each stays one.
        Edges.roads(x, 4, 0, 1, 1, 2, 2, 3);
        DUE.is("25: POSTS with none at WAY FAR", x.fold(), 3);
        netIs("25: POSTS with none at WAY FAR", x, 3, 0, 1, 1, 2, 0, 2);
    }

    private static void halfRefusals() {
        EDGES.refused("26: no POSTS", Edges.busyWithNet(0), LikeNets::half, STATE);
        EDGES.refused("26: two parts", Edges.busyWithNet(2), LikeNets::half, STATE);
        EDGES.refused("26: of SIDES, not WHOLE", Edges.busyWithNet(4, 0, 1, 2, 3), LikeNets::half, STATE);
        EDGES.refused("26: 32 parts", Edges.busyWithNet(32), LikeNets::half, STATE);
        EDGES.refused("26: a ring of 3", Edges.busyWithMaking(0, 3, 0), LikeNets::half, STATE);
        EDGES.refused("26: a ring of 31", Edges.busyWithMaking(0, 31, 0), LikeNets::half, STATE);
        EDGES.refused("26: WHOLE, not of SIDES", Edges.busyWithMaking(1, 32, 0), LikeNets::half, STATE);
        Supplier<LikeNets> threeAtTheEnd = Edges.busyWithNet(5, 0, 1, 1, 2, 2, 3, 3, 4, 4, 2);
        EDGES.refused("26: three at the end", threeAtTheEnd, LikeNets::half, STATE);
    }

    private static void halfEnds() {
        LikeNets x = new LikeNets();
        x.net(1);
        DUE.is("26: one POST", x.half(), 1);
        netIs("26: one POST", x, 1);
        x.build(1, 2, 0);
        DUE.is("26: two POSTS", x.half(), 1);
        netIs("26: two POSTS", x, 1);
        x.build(5, 1, 31);
        DUE.is("26: the one of a star", x.half(), 1);
        netIs("26: the one of a star", x, 1);
        x.build(5, 31, 1);
        DUE.is("26: the many of a star", x.half(), 31);
        DUE.is("26: all joined", x.many(1), 31 * 30 / 2);
        x.build(5, 16, 16);
        DUE.is("26: 16 and 16", x.half(), 16);
        DUE.is("26: all 16 joined", x.many(1), 120);
        x = Nets.path(32);
        DUE.is("26: a path of 32", x.half(), 16);
        DUE.is("26: end to end", x.way(0, 15), 15);
        Edges.roads(x, 5, 0, 4, 4, 1, 1, 3, 3, 2);
        DUE.is("26: POST 0's side in order", x.half(), 3);
        netIs("26: POST 0's side in order", x, 3, 0, 1, 1, 2);
    }

    private static void twiceRefusals() {
        for (int n : new int[] {17, 18, 31, 32}) {
            EDGES.refused("27: " + n + " joined POSTS", Edges.busyWithMaking(1, n, 0), LikeNets::twice, FULL);
            EDGES.refused("27: " + n + " POSTS", Edges.busyWithNet(n), LikeNets::twice, FULL);
        }
    }

    private static void twiceEnds() {
        LikeNets x = new LikeNets();
        DUE.is("27: no POSTS", x.twice(), 0);
        netIs("27: no POSTS", x, 0);
        x.net(1);
        DUE.is("27: one POST", x.twice(), 2);
        netIs("27: one POST", x, 2);
        x.road(0, 1, true);
        DUE.is("27: two POSTS", x.twice(), 4);
        netIs("27: two POSTS", x, 4, 0, 3, 1, 2);
        x.build(1, 16, 0);
        DUE.is("27: 16 joined", x.twice(), 32);
        DUE.is("27: ROADS of 16", x.many(1), 240);
        DUE.is("27: the first and the last", x.joined(0, 31), true);
        DUE.is("27: the first and its own", x.joined(0, 16), false);
        DUE.is("27: the last and its own", x.joined(15, 31), false);
        DUE.is("27: the lesser among themselves", x.joined(0, 15), false);
        DUE.is("27: the greater among themselves", x.joined(16, 31), false);
        DUE.is("27: no more then", x.twice(), FULL);
    }

    private static void powerRefusals() {
        for (int i : new int[] {0, -1, -31, -32, Edges.LEAST}) {
            EDGES.refused("28: power(" + i + ")", Edges::busy, x -> x.power(i), LikeNets.NUMBER);
            EDGES.refused("28: power(" + i + ") of none", Edges.busyWithNet(0), x -> x.power(i), LikeNets.NUMBER);
            EDGES.refused("28: power(" + i + ") of 32", Edges.busyWithNet(32), x -> x.power(i), LikeNets.NUMBER);
        }
    }

    private static void powerEnds() {
        LikeNets x = new LikeNets();
        DUE.is("28: of no POSTS", x.power(1), 0);
        DUE.is("28: the greatest of no POSTS", x.power(Edges.GREATEST), 0);
        x = Nets.path(32);
        DUE.is("28: 1 changes nothing", x.power(1), 31);
        DUE.is("28: FAR stays", x.many(4), 31);
        DUE.is("28: 31", x.power(31), 1);
        netIs("28: 31", x, 32, 0, 31);
        for (int i : new int[] {32, 33, 64, 1024, Edges.GREATEST}) {
            x = Nets.path(32);
            DUE.is("28: " + i, x.power(i), 0);
            netIs("28: " + i, x, 32);
        }
        Edges.roads(x, 4, 0, 1, 2, 3);
        DUE.is("28: POSTS without a WAY", x.power(2), 0);
        netIs("28: POSTS without a WAY", x, 4);
        x.build(1, 32, 0);
        DUE.is("28: 496 ROADS", x.power(1), 496);
    }

    private static void otherEnds() {
        LikeNets x = new LikeNets();
        DUE.is("29: no POSTS", x.other(), 0);
        netIs("29: no POSTS", x, 0);
        x.net(1);
        DUE.is("29: one POST", x.other(), 0);
        netIs("29: one POST", x, 1);
        x.net(2);
        DUE.is("29: two POSTS", x.other(), 1);
        DUE.is("29: two joined POSTS", x.other(), 0);
        x.net(32);
        DUE.is("29: 32 POSTS", x.other(), 496);
        DUE.is("29: the ends", x.joined(0, 31), true);
        DUE.is("29: none with itself", x.joined(31, 31), false);
        DUE.is("29: 32 joined POSTS", x.other(), 0);
    }

    private static Supplier<LikeNets> ringWithARoad() {
        return () -> {
            LikeNets x = Edges.busy();
            x.build(0, 32, 0);
            x.road(0, 16, true);
            return x;
        };
    }

    private static void linesRefusals() {
        EDGES.refused("30: 33 ROADS", ringWithARoad(), LikeNets::lines, FULL);
        EDGES.refused("30: 36 ROADS of 9 POSTS", Edges.busyWithMaking(1, 9, 0), LikeNets::lines, FULL);
        EDGES.refused("30: 496 ROADS", Edges.busyWithMaking(1, 32, 0), LikeNets::lines, FULL);
    }

    private static void linesEnds() {
        LikeNets x = new LikeNets();
        DUE.is("30: no POSTS", x.lines(), 0);
        netIs("30: no POSTS", x, 0);
        x.net(32);
        DUE.is("30: no ROADS", x.lines(), 0);
        netIs("30: no ROADS", x, 0);
        Edges.roads(x, 32, 0, 31);
        DUE.is("30: one ROAD", x.lines(), 1);
        netIs("30: one ROAD", x, 1);
        Edges.roads(x, 32, 30, 31, 0, 1);
        DUE.is("30: two ROADS", x.lines(), 2);
        netIs("30: two ROADS", x, 2);
        x.build(5, 1, 31);
        DUE.is("30: 31 ROADS", x.lines(), 31);
        DUE.is("30: all have POST 0", x.many(1), 465);
        x.build(5, 4, 8);
        DUE.is("30: 32 ROADS", x.lines(), 32);
        DUE.is("30: 4 times 28 and 8 times 6", x.many(1), 160);
        // By their lesser POSTS the ROADS are 04 05 .. 011, 14 .. : the first and the ninth have 4 in common.
        DUE.is("30: the greater in common", x.joined(0, 8), true);
        DUE.is("30: the lesser in common", x.joined(0, 7), true);
        DUE.is("30: none in common", x.joined(0, 9), false);
        DUE.is("30: the last two", x.joined(30, 31), true);
        // Of 0 1 and 1 2 the one's greater POST is the other's lesser one.
        x = Nets.path(3);
        DUE.is("30: a path", x.lines(), 2);
        netIs("30: a path", x, 2, 0, 1);
    }

    private static void keepEnds() {
        LikeNets x = new LikeNets();
        DUE.is("31: no POSTS are kept", x.keep(), 1);
        x.net(3);
        DUE.is("31: they come back", x.back(), 1);
        netIs("31: no POSTS", x, 0);
        x.build(1, 32, 0);
        DUE.is("31: 32 POSTS are kept", x.keep(), 1);
        x.net(2);
        DUE.is("31: 32 come back", x.back(), 1);
        DUE.is("31: 32 POSTS", x.many(0), 32);
        DUE.is("31: 496 ROADS", x.many(1), 496);
        x.net(1);
        DUE.is("31: a lesser one in place of it", x.keep(), 1);
        x.net(32);
        DUE.is("31: the lesser one comes back", x.back(), 1);
        netIs("31: the lesser one", x, 1);
        DUE.is("31: kept twice", x.keep(), 1);
        DUE.is("31: and back", x.back(), 1);
        netIs("31: the same", x, 1);
    }

    private static LikeNets nothingKept() {
        LikeNets x = new LikeNets();
        Edges.roads(x, 5, 0, 1, 1, 2, 2, 3);
        Edges.told(x, 3, 2, 1, 1);
        Edges.sheet(x, 2, 1, 4, 0, 3, 1);
        return x;
    }

    private static void backRefusals() {
        EDGES.refused("32: nothing is kept", NetsOfNetsEdgesTest::nothingKept, LikeNets::back, STATE);
        EDGES.refused("32: a new object", LikeNets::new, LikeNets::back, STATE);
    }

    private static void backEnds() {
        LikeNets x = new LikeNets();
        x.build(0, 4, 0);
        x.keep();
        for (int time = 0; time < 3; time++) {
            x.road(0, 1, false);
            x.road(0, 2, true);
            DUE.is("32: it stays", x.back(), 1);
            netIs("32: it stays", x, 4, 0, 1, 1, 2, 2, 3, 3, 0);
        }
        x.sheet(0, 0, 3);
        x.tell(1);
        x.put(0, 0, 9);
        x.back();
        DUE.is("32: the SHEET is no part of it", x.cell(0, 2, 1), 1);
        DUE.is("32: nor is THE TOLD TABLE", x.posts(), 10);
    }
}
