import java.util.function.Supplier;

/** The boundary cases of promises 1 to 9, a sentence of the document each. */
public final class SheetsAndRoadsEdgesTest {
    private static final Due DUE = new Due("SheetsAndRoadsEdgesTest");
    private static final Edges EDGES = new Edges(DUE);
    private static final int NUMBER = LikeNets.NUMBER;
    private static final int MISSING = LikeNets.MISSING;
    private static final int FULL = LikeNets.FULL;

    public static void main(String[] args) {
        newObject();
        newObjectsShareNothing();
        sheetRefusals();
        sheetOrder();
        sheetEnds();
        sheetIsAllNought();
        cellRefusals();
        cellEnds();
        cellCasts();
        lose();
        netEnds();
        roadRefusals();
        roadEnds();
        loadRefusals();
        loadOrder();
        loadLengths();
        loadPairs();
        loadEnds();
        joined();
        buildKind();
        buildByOneNumber(0, 3);
        buildByOneNumber(1, 1);
        buildWords();
        buildSets();
        buildTwoHeaps();
        buildOrder();
        buildReplaces();
        DUE.end();
    }

    private static void newObject() {
        LikeNets x = new LikeNets();
        DUE.is("1: no POSTS", x.many(0), 0);
        DUE.is("1: no ROADS", x.many(1), 0);
        DUE.is("1: post 0 is none", x.way(0, 0), NUMBER);
        for (int r = 0; r < 4; r++) {
            DUE.is("1: SHEETS are MISSING for cell", x.cell(r, 0, 0), MISSING);
            DUE.is("1: SHEETS are MISSING for load", x.load(r, 0, 0), MISSING);
            DUE.is("1: SHEETS are MISSING for lose", x.lose(r), MISSING);
        }
        int[][] rows = {{0, 0, 1, 1}, {1, 0, 0, 1}};
        for (int i = 0; i < 2; i++) {
            for (int what = 0; what < 4; what++) {
                DUE.is("1: told entry(" + i + ", " + what + ")", x.entry(i, what), rows[i][what]);
            }
        }
        DUE.is("1: d is 1, no b(1)", x.put(0, 1, 1), NUMBER);
        DUE.is("1: d is 1, no c(2)", x.put(1, 2, 1), NUMBER);
        DUE.is("1: told POSTS", x.posts(), 2);
        DUE.is("1: no LAW is broken", x.can(), 0);
        DUE.is("1: nothing is kept", x.back(), LikeNets.STATE);
        DUE.is("1: no KINDS", x.kinds(), 0);
    }

    private static void newObjectsShareNothing() {
        LikeNets busy = Edges.busy();
        LikeNets x = new LikeNets();
        DUE.is("1: the other's POSTS", x.many(0), 0);
        DUE.is("1: the other's SHEET", x.lose(0), MISSING);
        DUE.is("1: the other's TABLE", x.posts(), 2);
        DUE.is("1: the other's kept net", x.back(), LikeNets.STATE);
        x.net(2);
        DUE.is("1: it has its own", busy.many(0), 5);
    }

    private static void sheetRefusals() {
        for (int r : Edges.outside(0, 3)) {
            EDGES.refused("2: sheet(" + r + ", 0, 1)", Edges::busy, x -> x.sheet(r, 0, 1), NUMBER);
        }
        for (int r = 0; r < 4; r++) {
            int at = r;
            for (int kind : Edges.outside(0, 2)) {
                EDGES.refused("2: sheet(" + r + ", " + kind + ", 1)", Edges::busy, x -> x.sheet(at, kind, 1), NUMBER);
            }
            for (int n : new int[] {-1, -2, -60, -61, Edges.LEAST}) {
                EDGES.refused("2: sheet(" + r + ", 2, " + n + ")", Edges::busy, x -> x.sheet(at, 2, n), LikeNets.SIZE);
            }
            for (int n : new int[] {61, 62, 256, 65536, Edges.GREATEST}) {
                EDGES.refused("2: sheet(" + r + ", 0, " + n + ")", Edges::busy, x -> x.sheet(at, 0, n), NUMBER);
            }
        }
    }

    private static void sheetOrder() {
        for (int n : new int[] {-1, Edges.LEAST}) {
            for (int r : Edges.outside(0, 3)) {
                EDGES.refused("2: r " + r + " ahead of SIZE", Edges::busy, x -> x.sheet(r, 0, n), NUMBER);
            }
            for (int kind : Edges.outside(0, 2)) {
                EDGES.refused("2: kind " + kind + " ahead of SIZE", Edges::busy, x -> x.sheet(0, kind, n), NUMBER);
            }
        }
    }

    private static void sheetEnds() {
        for (int r = 0; r <= 3; r += 3) {
            for (int kind = 0; kind <= 2; kind++) {
                String of = "2: sheet(" + r + ", " + kind + ", ";
                LikeNets x = new LikeNets();
                DUE.is(of + "0)", x.sheet(r, kind, 0), 1);
                DUE.is(of + "0) is there", x.load(r, 0, 0), 0);
                DUE.is(of + "0) has no number", x.cell(r, 0, 0), NUMBER);
                DUE.is(of + "1)", x.sheet(r, kind, 1), 1);
                DUE.is(of + "1) has one", x.cell(r, 0, 0), 1);
                DUE.is(of + "1) has no second", x.cell(r, 1, 0), NUMBER);
                DUE.is(of + "60)", x.sheet(r, kind, 60), 1);
                DUE.is(of + "60) has the last", x.cell(r, 59, 0), 1);
                DUE.is(of + "60) has no more", x.cell(r, 60, 0), NUMBER);
            }
        }
    }

    private static void sheetIsAllNought() {
        LikeNets x = new LikeNets();
        x.net(32);
        x.sheet(1, 2, 60);
        for (int i = 0; i < 60; i++) {
            x.cell(1, i, 7);
        }
        x.sheet(1, 2, 0);
        x.sheet(1, 2, 60);
        for (int i = 0; i < 60; i += 2) {
            DUE.is("2: both are 0", x.load(1, i, 1), NUMBER);
            x.cell(1, i, 1 + i / 2);
        }
        DUE.is("2: all others are 0", x.load(1, 0, 30), 30);
        for (int p = 1; p <= 30; p++) {
            DUE.is("2: joined to 0", x.joined(0, p), true);
        }
    }

    private static void cellRefusals() {
        for (int r : Edges.outside(0, 3)) {
            EDGES.refused("3: cell(" + r + ", 0, 1)", Edges::busy, x -> x.cell(r, 0, 1), NUMBER);
        }
        for (int i : new int[] {0, 1, -1, 60, Edges.LEAST, Edges.GREATEST}) {
            EDGES.refused("3: cell(3, " + i + ", 1) of none", Edges::busy, x -> x.cell(3, i, 1), MISSING);
        }
        int[] lengths = {6, 4, 60};
        for (int r = 0; r < 3; r++) {
            int at = r;
            for (int i : Edges.outside(0, lengths[r] - 1)) {
                EDGES.refused("3: cell(" + r + ", " + i + ", 1)", Edges::busy, x -> x.cell(at, i, 1), NUMBER);
            }
        }
    }

    private static void cellEnds() {
        int[] values = {Edges.LEAST, -1, 0, 1, Edges.GREATEST};
        for (int v : values) {
            LikeNets x = Edges.busy();
            DUE.is("3: the first becomes " + v, x.cell(0, 0, v), 1);
            DUE.is("3: the last becomes " + v, x.cell(0, 5, v), 1);
            DUE.is("3: of the longest " + v, x.cell(2, 59, v), 1);
        }
        LikeNets x = new LikeNets();
        x.net(32);
        x.sheet(0, 2, 60);
        x.cell(0, 0, 30);
        x.cell(0, 59, 31);
        x.cell(0, 58, 1);
        DUE.is("3: the first pair", x.load(0, 0, 1), 1);
        DUE.is("3: is 30 and 0", x.joined(30, 0), true);
        DUE.is("3: the last pair", x.load(0, 58, 1), 1);
        DUE.is("3: is 1 and 31", x.joined(1, 31), true);
    }

    private static void cellCasts() {
        int[] numbers = {
            0, 30, -1, 127, 128, 255, 256, 256 + 30, -256, -256 + 30, 32767, 32768, 65535, 65536, 65536 + 30,
            -65536, -65536 + 30, 1 << 24, Edges.LEAST, Edges.LEAST + 30, Edges.GREATEST,
        };
        int[][] due = {
            {0, 30, -1, -1, -1, -1, 0, 30, 0, 30, -1, 0, -1, 0, 30, 0, 30, 0, 0, 30, -1},
            {0, 30, -1, -1, -1, -1, -1, -1, -1, -1, -1, -1, -1, 0, 30, 0, 30, 0, 0, 30, -1},
            {0, 30, -1, -1, -1, -1, -1, -1, -1, -1, -1, -1, -1, -1, -1, -1, -1, -1, -1, -1, -1},
        };
        for (int kind = 0; kind <= 2; kind++) {
            for (int i = 0; i < numbers.length; i++) {
                DUE.is("3: kind " + kind + " casts " + numbers[i], Nets.cast(kind, numbers[i]), due[kind][i]);
            }
        }
    }

    private static void lose() {
        for (int r : Edges.outside(0, 3)) {
            EDGES.refused("4: lose(" + r + ")", Edges::busy, x -> x.lose(r), NUMBER);
        }
        EDGES.refused("4: lose(3) of none", Edges::busy, x -> x.lose(3), MISSING);
        LikeNets x = Edges.busy();
        x.sheet(3, 0, 0);
        for (int r = 0; r < 4; r++) {
            DUE.is("4: lose(" + r + ")", x.lose(r), 1);
            DUE.is("4: lost for cell", x.cell(r, 0, 0), MISSING);
            DUE.is("4: lost for load", x.load(r, 0, 0), MISSING);
            DUE.is("4: lose(" + r + ") again", x.lose(r), MISSING);
        }
        x.sheet(0, 2, 2);
        DUE.is("4: a new one is all 0", x.load(0, 0, 1), NUMBER);
    }

    private static void netEnds() {
        for (int n : Edges.outside(0, 32)) {
            EDGES.refused("5: net(" + n + ")", Edges::busy, x -> x.net(n), NUMBER);
        }
        for (int n = 0; n <= 32; n++) {
            LikeNets x = new LikeNets();
            x.build(1, 32, 0);
            DUE.is("5: net(" + n + ")", x.net(n), 1);
            DUE.is("5: POSTS of net(" + n + ")", x.many(0), n);
            DUE.is("5: no ROADS in net(" + n + ")", x.many(1), 0);
            DUE.is("5: heaps of net(" + n + ")", x.many(2), n);
            DUE.is("5: the last of net(" + n + ")", x.way(n - 1, n - 1), n == 0 ? NUMBER : 0);
            DUE.is("5: one more than net(" + n + ")", x.way(n, n), NUMBER);
            x.net(32);
            DUE.is("5: no ROAD comes again", x.many(1), 0);
        }
    }

    private static void roadRefusals() {
        EDGES.noPost("6: road on", (x, p, q) -> x.road(p, q, true));
        EDGES.noPost("6: road off", (x, p, q) -> x.road(p, q, false));
        for (int p : new int[] {32, 33, 64, -31, -32}) {
            EDGES.refused("6: a bit beyond " + p, Edges::busy, x -> x.road(1, p, false), NUMBER);
            EDGES.refused("6: from a bit beyond " + p, Edges::busy, x -> x.road(p, 1, true), NUMBER);
        }
        for (int p : new int[] {0, 4}) {
            EDGES.refused("6: the same on " + p, Edges::busy, x -> x.road(p, p, true), NUMBER);
            EDGES.refused("6: the same off " + p, Edges::busy, x -> x.road(p, p, false), NUMBER);
        }
    }

    private static void roadEnds() {
        int[][] pairs = {{0, 1}, {0, 31}, {31, 0}, {30, 31}, {31, 30}, {15, 16}};
        for (int[] pair : pairs) {
            int p = pair[0];
            int q = pair[1];
            String of = Edges.text(pair);
            LikeNets x = new LikeNets();
            x.net(32);
            DUE.is("6: off, not new " + of, x.road(p, q, false), 0);
            DUE.is("6: on, new " + of, x.road(p, q, true), 1);
            DUE.is("6: on, not new " + of, x.road(p, q, true), 0);
            DUE.is("6: on, not new the other way " + of, x.road(q, p, true), 0);
            DUE.is("6: one ROAD " + of, x.many(1), 1);
            DUE.is("6: joined " + of, x.joined(p, q) && x.joined(q, p), true);
            DUE.is("6: off, new " + of, x.road(q, p, false), 1);
            DUE.is("6: off again " + of, x.road(p, q, false), 0);
            DUE.is("6: no ROAD " + of, x.many(1), 0);
        }
    }

    private static void loadRefusals() {
        for (int r : Edges.outside(0, 3)) {
            EDGES.refused("7: load(" + r + ", 0, 0)", Edges::busy, x -> x.load(r, 0, 0), NUMBER);
        }
        EDGES.refused("7: load of none", Edges::busy, x -> x.load(3, 0, 0), MISSING);
        for (int below : new int[] {-1, -2, -30, Edges.LEAST, Edges.LEAST + 1}) {
            EDGES.refused("7: i is " + below, Edges::busy, x -> x.load(0, below, 1), NUMBER);
            EDGES.refused("7: i is " + below + " with m 0", Edges::busy, x -> x.load(0, below, 0), NUMBER);
            EDGES.refused("7: m is " + below, Edges::busy, x -> x.load(0, 0, below), NUMBER);
            EDGES.refused("7: m is " + below + " later on", Edges::busy, x -> x.load(0, 4, below), NUMBER);
        }
    }

    private static void loadOrder() {
        EDGES.refused("7: MISSING ahead of i", Edges::busy, x -> x.load(3, -1, 0), MISSING);
        EDGES.refused("7: MISSING ahead of m", Edges::busy, x -> x.load(3, 0, -1), MISSING);
        EDGES.refused("7: MISSING ahead of the length", Edges::busy, x -> x.load(3, 60, 60), MISSING);
        EDGES.refused("7: r ahead of all", Edges::busy, x -> x.load(4, -1, -1), NUMBER);
    }

    private static void loadLengths() {
        // Sheet 0 has 6 numbers, that make three pairs.
        int[][] tooLong = {
            {0, 4}, {1, 3}, {2, 3}, {3, 2}, {4, 2}, {5, 1}, {6, 1}, {7, 0}, {0, 30}, {60, 0}, {61, 0},
            {Edges.GREATEST, 0}, {Edges.GREATEST, 1}, {Edges.GREATEST, Edges.GREATEST}, {0, Edges.GREATEST},
            {0, 1 << 30}, {0, (1 << 30) + 1}, {2, Edges.GREATEST}, {4, Edges.GREATEST}, {Edges.GREATEST - 1, 1},
            {1 << 30, 1 << 30}, {Edges.GREATEST, 1 << 30},
        };
        for (int[] call : tooLong) {
            EDGES.refused("7: too long " + Edges.text(call), Edges::busy, x -> x.load(0, call[0], call[1]), NUMBER);
        }
        int[][] justThere = {{0, 3}, {2, 2}, {4, 1}, {6, 0}, {5, 0}, {0, 0}};
        for (int[] call : justThere) {
            LikeNets x = Edges.busy();
            x.net(5);
            DUE.is("7: just there " + Edges.text(call), x.load(0, call[0], call[1]), call[1]);
        }
        LikeNets x = new LikeNets();
        x.sheet(0, 0, 0);
        DUE.is("7: none of none", x.load(0, 0, 0), 0);
        DUE.is("7: one of none", x.load(0, 0, 1), NUMBER);
        x.sheet(0, 0, 1);
        DUE.is("7: half a pair", x.load(0, 0, 1), NUMBER);
        DUE.is("7: none without POSTS", x.load(0, 0, 0), 0);
    }

    private static void loadPairs() {
        // The first pair would be new, and the second is none that may be.
        int[][] wrong = {{2, 2}, {0, 0}, {4, 4}, {-1, 0}, {0, -1}, {5, 0}, {0, 5}, {4, 32}, {33, 0},
            {Edges.LEAST, 1}, {1, Edges.GREATEST}};
        for (int[] pair : wrong) {
            Supplier<LikeNets> made = () -> {
                LikeNets x = Edges.busy();
                Edges.sheet(x, 0, 2, 1, 3, pair[0], pair[1], 1, 4);
                return x;
            };
            String of = Edges.text(pair);
            EDGES.refused("7: in the middle " + of, made, x -> x.load(0, 0, 3), NUMBER);
            EDGES.refused("7: at the end " + of, made, x -> x.load(0, 0, 2), NUMBER);
            EDGES.refused("7: at the start " + of, made, x -> x.load(0, 2, 2), NUMBER);
            DUE.is("7: ahead of " + of, made.get().load(0, 0, 1), 1);
            DUE.is("7: after " + of, made.get().load(0, 4, 1), 1);
        }
        EDGES.refused("7: no POSTS", Edges.busyWithNet(0), x -> x.load(0, 0, 1), NUMBER);
        EDGES.refused("7: one POST", Edges.busyWithNet(1), x -> x.load(0, 0, 1), NUMBER);
    }

    private static void loadEnds() {
        LikeNets x = new LikeNets();
        x.net(32);
        x.sheet(3, 0, 60);
        for (int i = 0; i < 30; i++) {
            x.cell(3, 2 * i, i);
            x.cell(3, 2 * i + 1, 31);
        }
        DUE.is("7: all of the longest SHEET", x.load(3, 0, 30), 30);
        DUE.is("7: none is new", x.load(3, 0, 30), 0);
        x.road(31, 29, false);
        x.road(0, 31, false);
        DUE.is("7: two are new", x.load(3, 0, 30), 2);
        x = new LikeNets();
        x.net(2);
        Edges.sheet(x, 0, 1, 0, 1, 1, 0, 0, 1);
        DUE.is("7: one three times is new once", x.load(0, 0, 3), 1);
        DUE.is("7: it is joined", x.joined(1, 0), true);
    }

    private static void joined() {
        int[] sizes = {0, 1, 2, 31, 32};
        for (int n : sizes) {
            LikeNets x = new LikeNets();
            x.net(n);
            x.other();
            for (int p : new int[] {-1, n, n + 1, 32, 33, 63, 64, Edges.LEAST, Edges.GREATEST, -32, -31}) {
                if (p >= 0 && p < n) {
                    continue;
                }
                DUE.is("8: " + p + " of " + n, x.joined(p, 0), false);
                DUE.is("8: to " + p + " of " + n, x.joined(0, p), false);
                DUE.is("8: both " + p + " of " + n, x.joined(p, p), false);
            }
            DUE.is("8: the ends of " + n, x.joined(0, n - 1), n > 1);
            DUE.is("8: the last and itself of " + n, x.joined(n - 1, n - 1), false);
        }
    }

    private static void refusesBuild(int kind, int a, int b, int why) {
        EDGES.refused("9: build" + Edges.text(kind, a, b), Edges::busy, x -> x.build(kind, a, b), why);
    }

    private static void builds(int kind, int a, int b, int posts, int roads) {
        LikeNets x = Edges.busy();
        String call = "9: build" + Edges.text(kind, a, b);
        DUE.is(call, x.build(kind, a, b), posts);
        DUE.is(call + " POSTS", x.many(0), posts);
        DUE.is(call + " ROADS", x.many(1), roads);
    }

    private static void buildKind() {
        for (int kind : Edges.outside(0, 5)) {
            refusesBuild(kind, 3, 2, NUMBER);
            refusesBuild(kind, 33, 1, NUMBER);
        }
        builds(0, 3, 2, 3, 3);
        builds(5, 3, 2, 5, 6);
    }

    /** Of kinds 0 and 1 b counts nothing, and there are a POSTS. */
    private static void buildByOneNumber(int kind, int least) {
        for (int b : new int[] {Edges.LEAST, -1, 0, 33, Edges.GREATEST}) {
            for (int a : new int[] {least - 1, 0, -1, Edges.LEAST}) {
                refusesBuild(kind, a, b, NUMBER);
            }
            for (int a : new int[] {33, 34, 64, Edges.GREATEST}) {
                refusesBuild(kind, a, b, FULL);
            }
            for (int a : new int[] {least, least + 1, 32}) {
                builds(kind, a, b, a, kind == 0 ? a : a * (a - 1) / 2);
            }
        }
    }

    private static void buildWords() {
        int[][] wrong = {{1, 1}, {0, 1}, {-1, 2}, {-2, 2}, {Edges.LEAST, 1}, {2, 0}, {2, -1}, {32, 0}, {2, Edges.LEAST},
            {1, Edges.GREATEST}, {Edges.GREATEST, 0}};
        for (int[] w : wrong) {
            refusesBuild(2, w[0], w[1], NUMBER);
        }
        int[][] full = {{33, 1}, {2, 6}, {3, 4}, {4, 3}, {5, 3}, {6, 2}, {32, 2}, {2, 32}, {2, 64}, {4, 32}, {16, 16},
            {65536, 2}, {65536, 4}, {1 << 30, 4}, {Edges.GREATEST, 1}, {2, Edges.GREATEST},
            {Edges.GREATEST, Edges.GREATEST}};
        for (int[] f : full) {
            refusesBuild(2, f[0], f[1], FULL);
        }
        builds(2, 2, 1, 2, 1);
        builds(2, 32, 1, 32, 496);
        builds(2, 2, 5, 32, 80);
        builds(2, 3, 3, 27, 81);
        builds(2, 5, 2, 25, 100);
        LikeNets x = new LikeNets();
        x.build(2, 2, 5);
        DUE.is("9: the last words", x.joined(31, 15), true);
        DUE.is("9: all letters unlike", x.way(0, 31), 5);
    }

    private static void buildSets() {
        for (int kind = 3; kind <= 4; kind++) {
            int[][] wrong = {{1, 1}, {2, 2}, {2, 0}, {2, 3}, {5, 5}, {5, -1}, {0, 0}, {0, 1}, {1, 0}, {-1, -2}, {-1, 1},
                {Edges.LEAST, 1}, {5, Edges.LEAST}, {5, Edges.GREATEST}, {33, 33}, {33, 0}, {64, 64},
                {Edges.GREATEST, Edges.GREATEST}, {Edges.GREATEST, 0}, {Edges.LEAST, Edges.LEAST}};
            for (int[] w : wrong) {
                refusesBuild(kind, w[0], w[1], NUMBER);
            }
            int[][] full = {{33, 1}, {33, 32}, {9, 2}, {9, 7}, {7, 3}, {7, 4}, {32, 2}, {32, 16}, {32, 30}, {64, 32},
                {34, 17}, {67, 33}, {Edges.GREATEST, 1}, {Edges.GREATEST, Edges.GREATEST - 1}, {65536, 2}};
            for (int[] f : full) {
                refusesBuild(kind, f[0], f[1], FULL);
            }
        }
        builds(3, 2, 1, 2, 1);
        builds(3, 3, 2, 3, 3);
        builds(3, 32, 1, 32, 496);
        builds(3, 32, 31, 32, 496);
        builds(3, 8, 2, 28, 168);
        builds(3, 8, 6, 28, 168);
        builds(4, 2, 1, 2, 1);
        builds(4, 3, 2, 3, 0);
        builds(4, 32, 1, 32, 496);
        builds(4, 32, 31, 32, 0);
        builds(4, 8, 2, 28, 210);
        builds(4, 8, 6, 28, 0);
    }

    private static void buildTwoHeaps() {
        int[][] wrong = {{0, 1}, {1, 0}, {0, 0}, {-1, 5}, {5, -1}, {Edges.LEAST, 1}, {1, Edges.LEAST}, {0, 33}, {33, 0},
            {Edges.LEAST, Edges.LEAST}, {-1, -1}};
        for (int[] w : wrong) {
            refusesBuild(5, w[0], w[1], NUMBER);
        }
        int[][] full = {{32, 1}, {1, 32}, {16, 17}, {17, 16}, {33, 1}, {Edges.GREATEST, 1}, {1, Edges.GREATEST},
            {Edges.GREATEST, Edges.GREATEST}, {1 << 30, 1 << 30}};
        for (int[] f : full) {
            refusesBuild(5, f[0], f[1], FULL);
        }
        builds(5, 1, 1, 2, 1);
        builds(5, 31, 1, 32, 31);
        builds(5, 1, 31, 32, 31);
        builds(5, 16, 16, 32, 256);
        LikeNets x = new LikeNets();
        x.build(5, 1, 31);
        DUE.is("9: the a are the first ones", x.joined(0, 31), true);
        DUE.is("9: none among the b", x.joined(1, 31), false);
        x.build(5, 31, 1);
        DUE.is("9: the b are the last ones", x.joined(0, 31), true);
        DUE.is("9: none among the a", x.joined(0, 30), false);
    }

    private static void buildOrder() {
        refusesBuild(6, Edges.GREATEST, Edges.GREATEST, NUMBER);
        refusesBuild(2, 33, 0, NUMBER);
        refusesBuild(2, 1, 33, NUMBER);
        refusesBuild(3, 40, 40, NUMBER);
        refusesBuild(4, 40, 0, NUMBER);
        refusesBuild(5, 40, 0, NUMBER);
        refusesBuild(5, 0, 40, NUMBER);
    }

    private static void buildReplaces() {
        LikeNets x = new LikeNets();
        x.build(1, 32, 0);
        DUE.is("9: a lesser one", x.build(0, 3, 0), 3);
        DUE.is("9: its last post", x.way(2, 0), 1);
        DUE.is("9: no post beyond", x.way(3, 0), NUMBER);
        x.net(32);
        DUE.is("9: and no ROAD of the first", x.many(1), 0);
    }
}
