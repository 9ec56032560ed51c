import java.util.Arrays;
import java.util.function.Supplier;
import java.util.stream.IntStream;

/** The boundary cases of promises 33 to 36. */
public final class HeapsAndKindsEdgesTest {
    private static final Due DUE = new Due("HeapsAndKindsEdgesTest");
    private static final Edges EDGES = new Edges(DUE);
    private static final int NUMBER = LikeNets.NUMBER;
    private static final int STATE = LikeNets.STATE;
    private static final int SPENT = LikeNets.SPENT;
    private static final int NEVER = LikeNets.NEVER;

    public static void main(String[] args) {
        reachRefusals();
        noPosts();
        orderOfRefusals();
        reachEnds();
        none();
        placeInHeap();
        spentAhead();
        lastCaseFindsNone();
        lastCaseFindsOne();
        otherReaches();
        kindsEnds();
        kindRefusals();
        kindEnds();
        lastCall();
        DUE.end();
    }

    /** Both calls are refused alike, whatever place in the heap is asked for. */
    private static void refused(String of, Supplier<LikeNets> made, int e, int why) {
        EDGES.refused("33: " + of, made, x -> x.perfect(e), why);
        for (int i : new int[] {0, -1, 32, Edges.LEAST, Edges.GREATEST}) {
            EDGES.refused("34: " + of + ", place " + i, made, x -> x.heap(e, i), why);
        }
    }

    private static void heapIs(String of, LikeNets x, int e, int... due) {
        DUE.is("33: " + of, x.perfect(e), due.length);
        for (int i = 0; i < due.length; i++) {
            DUE.is("34: " + of + ", place " + i, x.heap(e, i), due[i]);
        }
        for (int i : Edges.outside(0, due.length - 1)) {
            DUE.is("34: " + of + ", place " + i, x.heap(e, i), NEVER);
        }
    }

    private static void reachRefusals() {
        for (int e : Edges.outside(0, 6)) {
            refused("e is " + e, Edges::busy, e, NUMBER);
        }
        refused("e is 8", Edges::busy, 8, NUMBER);
    }

    private static void noPosts() {
        for (int e = 0; e <= 6; e++) {
            refused("no POSTS by " + e, Edges.busyWithNet(0), e, STATE);
        }
    }

    private static void orderOfRefusals() {
        for (int e : Edges.outside(0, 6)) {
            refused("e is " + e + " ahead of STATE", Edges.busyWithNet(0), e, NUMBER);
            refused("e is " + e + " ahead of NEVER", Edges.busyWithMaking(0, 5, 0), e, NUMBER);
            refused("e is " + e + " ahead of SPENT", HeapsAndKindsEdgesTest::spent, e, NUMBER);
        }
    }

    private static void reachEnds() {
        LikeNets x = new LikeNets();
        x.net(1);
        for (int e = 0; e <= 6; e++) {
            heapIs("one POST by " + e, x, e, 0);
        }
        int[] all = new int[32];
        for (int p = 0; p < 32; p++) {
            all[p] = p;
        }
        x.net(32);
        heapIs("32 POSTS by 0", x, 0, all);
        heapIs("32 POSTS by 6", x, 6, all);
        x.build(1, 32, 0);
        heapIs("32 joined by 0", x, 0, all);
        heapIs("32 joined by 1", x, 1, 0);
        // By 6 each POST of a ring of 13 is at such a WAY from all, of a ring of 14 it is not.
        x.build(0, 13, 0);
        heapIs("a ring of 13 by 6", x, 6, 0);
        DUE.is("33: a ring of 13 by 5", x.perfect(5), NEVER);
        x.build(0, 14, 0);
        DUE.is("33: a ring of 14 by 6", x.perfect(6), NEVER);
        x.build(0, 26, 0);
        heapIs("a ring of 26 by 6", x, 6, 0, 13);
        heapIs("a path of 32 by 1", Nets.path(32), 1, 0, 3, 6, 9, 12, 15, 18, 21, 24, 27, 30);
    }

    private static void none() {
        refused("a ring of 4 by 1", Edges.busyWithMaking(0, 4, 0), 1, NEVER);
        refused("a ring of 5 by 1", Edges.busyWithMaking(0, 5, 0), 1, NEVER);
        refused("words of 4 by 1", Edges.busyWithMaking(2, 2, 4), 1, NEVER);
        refused("a ring of 32 by 6", Edges.busyWithMaking(0, 32, 0), 6, NEVER);
        refused("a ring of 4 at the end", Edges.busyWithNet(6, 2, 3, 3, 4, 4, 5, 5, 2), 1, NEVER);
    }

    private static void placeInHeap() {
        Supplier<LikeNets> words = Edges.busyWithMaking(2, 2, 3);
        for (int i : Edges.outside(0, 1)) {
            EDGES.refused("34: words by 1, place " + i, words, x -> x.heap(1, i), NEVER);
        }
        DUE.is("34: words by 1, the first", words.get().heap(1, 0), 0);
        DUE.is("34: words by 1, the last", words.get().heap(1, 1), 7);
        // As they were taken, not by numbers: 8 is taken for 0, then 4 for 2, then 7 for 5.
        LikeNets x = new LikeNets();
        Edges.roads(x, 9, 0, 8, 8, 1, 2, 4, 4, 3, 5, 7, 7, 6);
        heapIs("by the middle ones", x, 1, 8, 4, 7);
    }

    private static LikeNets spent() {
        return Nets.heapsAndRing(3, 2, 4, 4, 3, 4, 4);
    }

    /**
     * A path of 6 has its first two POSTS ahead of all heaps and the other four after them. With its end taken it
     * fails only when all heaps have been gone through in all ways; with the second one taken it is soon done.
     */
    private static LikeNets withPath(int... sizes) {
        LikeNets x = new LikeNets();
        x.net(IntStream.of(sizes).sum() + 6);
        int at = Nets.heaps(x, 2, sizes);
        x.road(0, 1, true);
        x.road(1, at, true);
        for (int i = 0; i < 3; i++) {
            x.road(at + i, at + i + 1, true);
        }
        return x;
    }

    private static void spentAhead() {
        refused("a 20001st CASE", HeapsAndKindsEdgesTest::spent, 1, SPENT);
    }

    private static void lastCaseFindsNone() {
        // 2 (1 + 3 (1 + 4 (1 + 4 (1 + 3 (1 + 4 (1 + 4 (1 + 3))))))) CASES are 20000.
        refused("none by 20000 CASES", () -> Nets.heapsAndRing(2, 3, 4, 4, 3, 4, 4), 1, NEVER);
    }

    private static void lastCaseFindsOne() {
        // Few heaps first, so that the tree of it is seen: 1, 2 (1 + 1), then 1, 1 and 1 CASES.
        heapIs("found by few CASES", withPath(2), 1, 1, 2, 6);
        // 1 + 2 (1 + 3 (1 + 2 (1 + 2 (1 + 3 (1 + 4 (1 + 2 (1 + 3 (1 + 5 (1 + 1))))))))) CASES, then 1, 9 and 1.
        heapIs("found by 20000 CASES", withPath(2, 3, 2, 2, 3, 4, 2, 3, 5), 1,
            1, 2, 4, 7, 9, 11, 14, 18, 20, 23, 30);
        // Likewise, with 2 and 2 in place of 5, and 1, 10 and 1 CASES at the end.
        refused("it would be found by 20001 CASES", () -> withPath(2, 3, 2, 2, 3, 4, 2, 3, 2, 2), 1, SPENT);
    }

    private static void otherReaches() {
        LikeNets x = spent();
        DUE.is("33: SPENT by 1", x.perfect(1), SPENT);
        heapIs("but not by 2", x, 2, 0, 3, 5, 9, 13, 16, 20, 24);
        DUE.is("33: SPENT by 1 again", x.perfect(1), SPENT);
        DUE.is("33: by 0 all", x.perfect(0), 28);
        DUE.is("34: by 1 none", x.heap(1, 0), SPENT);
        DUE.is("34: by 0 the last", x.heap(0, 27), 27);
        DUE.is("34: by 0 no more", x.heap(0, 28), NEVER);
    }

    private static void kindsEnds() {
        LikeNets x = new LikeNets();
        DUE.is("35: no POSTS", x.kinds(), 0);
        x.net(1);
        DUE.is("35: one POST", x.kinds(), 1);
        x.net(2);
        DUE.is("35: two POSTS", x.kinds(), 2);
        x.road(0, 1, true);
        DUE.is("35: two joined", x.kinds(), 2);
        x.net(32);
        DUE.is("35: 32 POSTS", x.kinds(), 2);
        x.road(30, 31, true);
        // Of the two, of the others: 2 of a POST and itself, then among the two, the others, and to and fro.
        DUE.is("35: two of 32 joined", x.kinds(), 6);
        x.other();
        DUE.is("35: all but two joined", x.kinds(), 6);
        x = Nets.path(32);
        x.road(1, 3, true);
        DUE.is("35: as many as there are pairs", x.kinds(), 1024);
        x.net(0);
        DUE.is("35: no POSTS again", x.kinds(), 0);
    }

    private static void kindRefusals() {
        EDGES.noPost("36: kind", LikeNets::kind);
    }

    private static void kindEnds() {
        LikeNets x = new LikeNets();
        x.net(1);
        DUE.is("36: one POST", x.kind(0, 0), 0);
        x.build(1, 32, 0);
        DUE.is("36: the last and itself", x.kind(31, 31), 0);
        DUE.is("36: the first and the last", x.kind(0, 31), 1);
        DUE.is("36: the last and the first", x.kind(31, 0), 1);
        x = Nets.path(32);
        x.road(1, 3, true);
        for (int p = 0; p < 32; p += 31) {
            for (int q = 0; q < 32; q += 31) {
                DUE.is("36: kind(" + p + ", " + q + ") of all", x.kind(p, q), 32 * p + q);
            }
        }
        // A star about the last: 0 0, then 0 1, then 0 31, then 31 0, then 31 31.
        x.build(5, 31, 1);
        int[][] due = {{0, 0, 0}, {0, 1, 1}, {0, 31, 2}, {31, 0, 3}, {31, 31, 4}, {30, 30, 0}, {30, 0, 1}, {31, 30, 3}};
        for (int[] pair : due) {
            DUE.is("36: a star, " + Edges.text(pair), x.kind(pair[0], pair[1]), pair[2]);
        }
        DUE.is("35: a star", x.kinds(), 5);
    }

    /** An object is good for 512 calls, dear and refused ones as well: some 40 lay the net, then 58 times 8. */
    private static void lastCall() {
        LikeNets x = spent();
        x.keep();
        long[] first = turn(x);
        DUE.is("33: SPENT in the first turn", first[1], SPENT);
        for (int time = 2; time <= 58; time++) {
            DUE.is("33: turn " + time, Arrays.equals(turn(x), first), true);
        }
    }

    private static long[] turn(LikeNets x) {
        return new long[] {
            x.back(), x.perfect(1), x.kinds(), x.net(33), x.road(0, 27, true), x.perfect(1), x.kind(0, 27), x.many(1),
        };
    }
}
