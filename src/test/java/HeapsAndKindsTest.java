/** Promises 33 to 36. */
public final class HeapsAndKindsTest {
    private static final Due DUE = new Due("HeapsAndKindsTest");

    public static void main(String[] args) {
        perfect();
        cases();
        afterChanges();
        kinds();
        kind();
        DUE.end();
    }

    private static void heapIs(LikeNets x, String of, int e, int... due) {
        DUE.is("33: " + of, x.perfect(e), due.length);
        for (int i = 0; i < due.length; i++) {
            DUE.is("34: " + of + ", post " + i, x.heap(e, i), due[i]);
        }
        DUE.is("34: " + of + ", below", x.heap(e, -1), LikeNets.NEVER);
        DUE.is("34: " + of + ", above", x.heap(e, due.length), LikeNets.NEVER);
    }

    private static void refuses(LikeNets x, String of, int e, int why) {
        DUE.is("33: " + of, x.perfect(e), why);
        DUE.is("34: " + of, x.heap(e, 0), why);
    }

    private static void perfect() {
        LikeNets x = new LikeNets();
        refuses(x, "e below", -1, LikeNets.NUMBER);
        refuses(x, "e above", 7, LikeNets.NUMBER);
        refuses(x, "no posts", 6, LikeNets.STATE);
        refuses(x, "no posts", 0, LikeNets.STATE);
        x.net(3);
        heapIs(x, "no roads", 6, 0, 1, 2);
        x.build(0, 6, 0);
        heapIs(x, "a ring of 6 by 1", 1, 0, 3);
        heapIs(x, "a ring of 6 by 0", 0, 0, 1, 2, 3, 4, 5);
        refuses(x, "a ring of 6 by 2", 2, LikeNets.NEVER);
        heapIs(x, "a ring of 6 by 3", 3, 0);
        x.build(0, 13, 0);
        heapIs(x, "a ring of 13 by 6", 6, 0);
        x.build(0, 32, 0);
        refuses(x, "a ring of 32 by 1", 1, LikeNets.NEVER);
        x.build(0, 28, 0);
        heapIs(x, "a ring of 28 by 3", 3, 0, 7, 14, 21);
        heapIs(Nets.path(5), "a path of 5 by 1", 1, 0, 3);
        heapIs(Nets.path(6), "a path of 6 by 1", 1, 1, 4);
        x.build(2, 2, 3);
        heapIs(x, "words of 3", 1, 0, 7);
        x.build(5, 1, 9);
        heapIs(x, "a star", 1, 0);
    }

    private static void cases() {
        // 2 (1 + 3 (1 + 4 (1 + 4 (1 + 3 (1 + 4 (1 + 4 (1 + 3))))))) is 20000 CASES, with 3 in the ring.
        refuses(Nets.heapsAndRing(2, 3, 4, 4, 3, 4, 4), "20000 cases", 1, LikeNets.NEVER);
        refuses(Nets.heapsAndRing(3, 2, 4, 4, 3, 4, 4), "20001 cases", 1, LikeNets.SPENT);
        refuses(Nets.heapsAndRing(2, 2, 2, 2, 2, 2, 2, 2, 2, 2, 2, 2, 2, 2), "many cases", 1, LikeNets.SPENT);
        heapIs(Nets.heapsAndRing(3, 2, 4, 4, 3, 4, 4), "by 2 there is one", 2, 0, 3, 5, 9, 13, 16, 20, 24);
    }

    private static void afterChanges() {
        LikeNets x = new LikeNets();
        x.build(0, 6, 0);
        heapIs(x, "a ring", 1, 0, 3);
        x.road(0, 3, true);
        heapIs(x, "with a road", 1, 1, 4);
        x.road(0, 3, false);
        heapIs(x, "without it", 1, 0, 3);
        x.keep();
        x.other();
        refuses(x, "the other one", 1, LikeNets.NEVER);
        x.back();
        heapIs(x, "back", 1, 0, 3);
        DUE.is("35: the ring", x.kinds(), 4);
        x.road(0, 3, true);
        DUE.is("35: with a road", x.kinds(), 10);
        x.net(2);
        DUE.is("35: two posts", x.kinds(), 2);
        x.sheet(0, 0, 2);
        x.cell(0, 1, 1);
        x.load(0, 0, 1);
        heapIs(x, "a loaded road", 1, 0);
    }

    private static void kinds() {
        LikeNets x = new LikeNets();
        DUE.is("35: no posts", x.kinds(), 0);
        x.net(1);
        DUE.is("35: one post", x.kinds(), 1);
        x.net(32);
        DUE.is("35: no roads", x.kinds(), 2);
        x.build(1, 32, 0);
        DUE.is("35: all joined", x.kinds(), 2);
        x.build(0, 32, 0);
        DUE.is("35: a ring", x.kinds(), 17);
        x.build(2, 2, 5);
        DUE.is("35: words", x.kinds(), 6);
        x.build(4, 7, 2);
        DUE.is("35: sets", x.kinds(), 3);
        x.build(5, 2, 3);
        DUE.is("35: two heaps", x.kinds(), 6);
        x.build(5, 3, 3);
        DUE.is("35: two like heaps", x.kinds(), 3);
        x = Nets.path(32);
        // Of a path only the turning about remains.
        DUE.is("35: a path", x.kinds(), 512);
        x.road(0, 2, true);
        // The two posts at the end may change places, all others stay.
        DUE.is("35: a path with a ring of 3 at its end", x.kinds(), (1024 + 900) / 2);
        x.road(0, 2, false);
        x.road(1, 3, true);
        DUE.is("35: all pairs unlike", x.kinds(), 1024);
        DUE.is("36: the last of all", x.kind(31, 31), 1023);
        DUE.is("36: one of all", x.kind(17, 5), 17 * 32 + 5);
    }

    private static void kind() {
        LikeNets x = new LikeNets();
        DUE.is("36: no posts", x.kind(0, 0), LikeNets.NUMBER);
        // The path 0 1 2: the ends are alike.
        x.net(3);
        x.road(0, 1, true);
        x.road(1, 2, true);
        DUE.is("36: p below", x.kind(-1, 0), LikeNets.NUMBER);
        DUE.is("36: q below", x.kind(0, -1), LikeNets.NUMBER);
        DUE.is("36: p above", x.kind(3, 0), LikeNets.NUMBER);
        DUE.is("36: q above", x.kind(0, 3), LikeNets.NUMBER);
        int[] due = {0, 1, 2, 3, 4, 3, 2, 1, 0};
        for (int at = 0; at < 9; at++) {
            DUE.is("36: kind(" + at / 3 + ", " + at % 3 + ")", x.kind(at / 3, at % 3), due[at]);
        }
        DUE.is("35: a path of 3", x.kinds(), 5);
        x.build(0, 5, 0);
        DUE.is("36: joined first", x.kind(2, 3), 1);
        x.power(2);
        DUE.is("36: joined later", x.kind(0, 2), 2);
        DUE.is("36: not joined first", x.kind(0, 1), 1);
    }
}
