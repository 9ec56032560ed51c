/** Promises 1 to 9. */
public final class SheetsAndRoadsTest {
    private static final Due DUE = new Due("SheetsAndRoadsTest");

    public static void main(String[] args) {
        newObject();
        sheet();
        cell();
        lose();
        net();
        road();
        load();
        joined();
        build();
        buildNumbers();
        DUE.end();
    }

    private static void newObject() {
        LikeNets x = new LikeNets();
        DUE.is("1: many(0)", x.many(0), 0);
        for (int r = 0; r < 4; r++) {
            DUE.is("1: lose(" + r + ")", x.lose(r), LikeNets.MISSING);
        }
        DUE.is("1: entry(0, 2)", x.entry(0, 2), 1);
        DUE.is("1: entry(1, 0)", x.entry(1, 0), 1);
        DUE.is("1: entry(2, 0)", x.entry(2, 0), LikeNets.NUMBER);
        DUE.is("1: posts()", x.posts(), 2);
        DUE.is("1: back()", x.back(), LikeNets.STATE);
    }

    private static void sheet() {
        LikeNets x = new LikeNets();
        DUE.is("2: r below", x.sheet(-1, 0, 1), LikeNets.NUMBER);
        DUE.is("2: r above", x.sheet(4, 0, 1), LikeNets.NUMBER);
        DUE.is("2: kind below", x.sheet(0, -1, 1), LikeNets.NUMBER);
        DUE.is("2: kind above", x.sheet(0, 3, 1), LikeNets.NUMBER);
        DUE.is("2: kind ahead of size", x.sheet(0, 3, -1), LikeNets.NUMBER);
        DUE.is("2: r ahead of size", x.sheet(4, 0, -1), LikeNets.NUMBER);
        DUE.is("2: size", x.sheet(0, 2, -1), LikeNets.SIZE);
        DUE.is("2: least size", x.sheet(0, 2, Integer.MIN_VALUE), LikeNets.SIZE);
        DUE.is("2: too many", x.sheet(0, 2, 61), LikeNets.NUMBER);
        DUE.is("2: refused, so missing", x.cell(0, 0, 0), LikeNets.MISSING);
        for (int r = 0; r < 4; r++) {
            DUE.is("2: there", x.sheet(r, 2, 60), 1);
            DUE.is("2: last cell", x.cell(r, 59, 1), 1);
            DUE.is("2: one more cell", x.cell(r, 60, 1), LikeNets.NUMBER);
        }
        DUE.is("2: of no numbers", x.sheet(0, 0, 0), 1);
        DUE.is("2: it has none", x.cell(0, 0, 1), LikeNets.NUMBER);
        x.net(3);
        x.sheet(1, 2, 4);
        DUE.is("2: cells are 0", x.load(1, 0, 2), LikeNets.NUMBER);
        x.cell(1, 1, 1);
        x.cell(1, 3, 2);
        DUE.is("2: now pairs", x.load(1, 0, 2), 2);
        x.sheet(1, 2, 2);
        DUE.is("2: again all 0", x.load(1, 0, 1), LikeNets.NUMBER);
        x.cell(1, 1, 2);
        DUE.is("2: refusal keeps the sheet", x.sheet(1, 0, 61), LikeNets.NUMBER);
        DUE.is("2: kept", x.load(1, 0, 1), 0);
    }

    private static void cell() {
        LikeNets x = new LikeNets();
        DUE.is("3: r below", x.cell(-1, 0, 0), LikeNets.NUMBER);
        DUE.is("3: r above", x.cell(4, 0, 0), LikeNets.NUMBER);
        DUE.is("3: missing", x.cell(3, 0, 0), LikeNets.MISSING);
        DUE.is("3: missing ahead of i", x.cell(3, -1, 0), LikeNets.MISSING);
        x.sheet(3, 1, 2);
        DUE.is("3: i below", x.cell(3, -1, 0), LikeNets.NUMBER);
        DUE.is("3: i above", x.cell(3, 2, 0), LikeNets.NUMBER);
        DUE.is("3: i", x.cell(3, 1, 0), 1);
        DUE.is("3: byte 256 + 5", Nets.cast(0, 256 + 5), 5);
        DUE.is("3: byte -256 + 7", Nets.cast(0, -256 + 7), 7);
        DUE.is("3: byte 128", Nets.cast(0, 128), -1);
        DUE.is("3: short 65536 + 6", Nets.cast(1, 65536 + 6), 6);
        DUE.is("3: short 256 + 5", Nets.cast(1, 256 + 5), -1);
        DUE.is("3: int 65536 + 6", Nets.cast(2, 65536 + 6), -1);
        DUE.is("3: int 9", Nets.cast(2, 9), 9);
    }

    private static void lose() {
        LikeNets x = new LikeNets();
        DUE.is("4: r below", x.lose(-1), LikeNets.NUMBER);
        DUE.is("4: r above", x.lose(4), LikeNets.NUMBER);
        DUE.is("4: missing", x.lose(2), LikeNets.MISSING);
        x.sheet(2, 0, 3);
        x.sheet(3, 0, 3);
        DUE.is("4: lost", x.lose(2), 1);
        DUE.is("4: gone", x.cell(2, 0, 0), LikeNets.MISSING);
        DUE.is("4: the other stays", x.cell(3, 0, 0), 1);
        DUE.is("4: again", x.lose(2), LikeNets.MISSING);
    }

    private static void net() {
        LikeNets x = new LikeNets();
        x.build(1, 4, 0);
        DUE.is("5: below", x.net(-1), LikeNets.NUMBER);
        DUE.is("5: above", x.net(33), LikeNets.NUMBER);
        DUE.is("5: unchanged", x.many(1), 6);
        DUE.is("5: 32", x.net(32), 1);
        DUE.is("5: posts", x.many(0), 32);
        DUE.is("5: no roads", x.many(1), 0);
        DUE.is("5: 0", x.net(0), 1);
        DUE.is("5: no posts", x.many(0), 0);
    }

    private static void road() {
        LikeNets x = new LikeNets();
        DUE.is("6: no posts", x.road(0, 1, true), LikeNets.NUMBER);
        x.net(32);
        DUE.is("6: p below", x.road(-1, 1, true), LikeNets.NUMBER);
        DUE.is("6: q below", x.road(1, -1, true), LikeNets.NUMBER);
        DUE.is("6: p above", x.road(32, 1, true), LikeNets.NUMBER);
        DUE.is("6: q above", x.road(1, 32, true), LikeNets.NUMBER);
        DUE.is("6: the same", x.road(3, 3, true), LikeNets.NUMBER);
        DUE.is("6: the same, off", x.road(3, 3, false), LikeNets.NUMBER);
        DUE.is("6: off already", x.road(0, 31, false), 0);
        DUE.is("6: on", x.road(0, 31, true), 1);
        DUE.is("6: on again", x.road(31, 0, true), 0);
        DUE.is("6: joined", x.joined(31, 0), true);
        DUE.is("6: off", x.road(31, 0, false), 1);
        DUE.is("6: parted", x.joined(0, 31), false);
        DUE.is("6: off again", x.road(0, 31, false), 0);
    }

    private static void load() {
        LikeNets x = new LikeNets();
        DUE.is("7: r below", x.load(-1, 0, 0), LikeNets.NUMBER);
        DUE.is("7: r above", x.load(4, 0, 0), LikeNets.NUMBER);
        DUE.is("7: missing ahead of i", x.load(0, -1, 0), LikeNets.MISSING);
        x.net(4);
        x.sheet(0, 2, 8);
        int[] cells = {0, 1, 1, 2, 2, 1, 3, 0};
        for (int i = 0; i < cells.length; i++) {
            x.cell(0, i, cells[i]);
        }
        DUE.is("7: i below", x.load(0, -1, 1), LikeNets.NUMBER);
        DUE.is("7: m below", x.load(0, 0, -1), LikeNets.NUMBER);
        DUE.is("7: too long", x.load(0, 0, 5), LikeNets.NUMBER);
        DUE.is("7: too late", x.load(0, 7, 1), LikeNets.NUMBER);
        DUE.is("7: great m", x.load(0, 0, Integer.MAX_VALUE), LikeNets.NUMBER);
        DUE.is("7: m that wraps to nought", x.load(0, 0, 1 << 30), LikeNets.NUMBER);
        DUE.is("7: great i", x.load(0, Integer.MAX_VALUE, 1), LikeNets.NUMBER);
        DUE.is("7: a pair of one post", x.load(0, 1, 2), LikeNets.NUMBER);
        DUE.is("7: refused, so no roads", x.many(1), 0);
        DUE.is("7: none", x.load(0, 0, 0), 0);
        DUE.is("7: none at the end", x.load(0, 8, 0), 0);
        DUE.is("7: one twice", x.load(0, 0, 3), 2);
        DUE.is("7: now the last one", x.load(0, 0, 4), 1);
        DUE.is("7: all old", x.load(0, 0, 4), 0);
        DUE.is("7: way", x.way(3, 2), 3);
        x.cell(0, 7, 4);
        x.road(0, 1, false);
        DUE.is("7: the last is no post", x.load(0, 0, 4), LikeNets.NUMBER);
        DUE.is("7: nothing changed", x.joined(0, 1), false);
        x.cell(0, 7, -1);
        DUE.is("7: below 0", x.load(0, 6, 1), LikeNets.NUMBER);
    }

    private static void joined() {
        LikeNets x = new LikeNets();
        DUE.is("8: no posts", x.joined(0, 0), false);
        x.build(0, 5, 0);
        DUE.is("8: joined", x.joined(0, 4), true);
        DUE.is("8: not joined", x.joined(0, 2), false);
        DUE.is("8: itself", x.joined(2, 2), false);
        DUE.is("8: below", x.joined(-1, 0), false);
        DUE.is("8: above", x.joined(0, 5), false);
        DUE.is("8: a wrapping bit", x.joined(0, 33), false);
        DUE.is("8: least", x.joined(Integer.MIN_VALUE, 1), false);
    }

    private static void builds(int kind, int a, int b, int posts, int roads) {
        LikeNets x = new LikeNets();
        String call = "9: build(" + kind + ", " + a + ", " + b + ")";
        DUE.is(call, x.build(kind, a, b), posts);
        DUE.is(call + " posts", x.many(0), posts);
        DUE.is(call + " roads", x.many(1), roads);
    }

    private static void refuses(int kind, int a, int b, int why) {
        LikeNets x = new LikeNets();
        x.build(0, 7, 0);
        DUE.is("9: build(" + kind + ", " + a + ", " + b + ")", x.build(kind, a, b), why);
        DUE.is("9: unchanged", x.many(1), 7);
    }

    private static void build() {
        builds(0, 3, -9, 3, 3);
        builds(0, 32, 0, 32, 32);
        builds(1, 1, -5, 1, 0);
        builds(1, 32, 0, 32, 496);
        builds(2, 2, 1, 2, 1);
        builds(2, 2, 5, 32, 80);
        builds(2, 3, 3, 27, 81);
        builds(2, 5, 2, 25, 100);
        builds(2, 32, 1, 32, 496);
        builds(3, 5, 2, 10, 30);
        builds(3, 6, 3, 20, 90);
        builds(3, 32, 31, 32, 496);
        builds(3, 2, 1, 2, 1);
        builds(4, 2, 1, 2, 1);
        builds(4, 32, 1, 32, 496);
        builds(3, 8, 2, 28, 168);
        builds(4, 5, 2, 10, 15);
        builds(4, 7, 2, 21, 105);
        builds(4, 6, 3, 20, 10);
        builds(4, 6, 4, 15, 0);
        builds(4, 32, 31, 32, 0);
        builds(5, 1, 1, 2, 1);
        builds(5, 16, 16, 32, 256);
        builds(5, 31, 1, 32, 31);
        int none = LikeNets.NUMBER;
        int full = LikeNets.FULL;
        refuses(-1, 3, 3, none);
        refuses(6, 3, 3, none);
        refuses(0, 2, 0, none);
        refuses(0, 33, 0, full);
        refuses(1, 0, 0, none);
        refuses(1, 33, 0, full);
        refuses(1, Integer.MAX_VALUE, 0, full);
        refuses(2, 1, 3, none);
        refuses(2, 2, 0, none);
        refuses(2, 2, 6, full);
        refuses(2, 2, Integer.MAX_VALUE, full);
        refuses(2, Integer.MAX_VALUE, Integer.MAX_VALUE, full);
        refuses(2, 65536, 2, full);
        refuses(2, 33, 1, full);
        refuses(3, 4, 4, none);
        refuses(3, 4, 0, none);
        refuses(3, 9, 2, full);
        refuses(3, 33, 32, full);
        refuses(3, 32, 16, full);
        refuses(4, 1, 1, none);
        refuses(4, 4, -1, none);
        refuses(4, 7, 3, full);
        refuses(4, Integer.MAX_VALUE, Integer.MAX_VALUE - 1, full);
        refuses(5, 0, 3, none);
        refuses(5, 3, 0, none);
        refuses(5, 17, 16, full);
        refuses(5, Integer.MAX_VALUE, Integer.MAX_VALUE, full);
    }

    private static void buildNumbers() {
        LikeNets x = new LikeNets();
        x.build(0, 5, 0);
        DUE.is("9: ring 3 4", x.joined(3, 4), true);
        DUE.is("9: ring 4 0", x.joined(4, 0), true);
        x.build(2, 3, 2);
        DUE.is("9: words 00 10", x.joined(0, 1), true);
        DUE.is("9: words 00 02", x.joined(0, 6), true);
        DUE.is("9: words 00 11", x.joined(0, 4), false);
        DUE.is("9: words 21 22", x.joined(5, 8), true);
        DUE.is("9: words 20 01", x.joined(2, 3), false);
        // The sets of 2 of 0 to 3 in order: 01 02 12 03 13 23.
        x.build(4, 4, 2);
        DUE.is("9: sets 01 23", x.joined(0, 5), true);
        DUE.is("9: sets 02 13", x.joined(1, 4), true);
        DUE.is("9: sets 12 03", x.joined(2, 3), true);
        DUE.is("9: sets 01 02", x.joined(0, 1), false);
        x.build(3, 4, 2);
        DUE.is("9: sets 01 23 unlike", x.joined(0, 5), false);
        DUE.is("9: sets 12 03 unlike", x.joined(2, 3), false);
        DUE.is("9: sets 01 12", x.joined(0, 2), true);
        DUE.is("9: sets 03 13", x.joined(3, 4), true);
        x.build(5, 2, 3);
        DUE.is("9: heaps 0 1", x.joined(0, 1), false);
        DUE.is("9: heaps 1 2", x.joined(1, 2), true);
        DUE.is("9: heaps 2 4", x.joined(2, 4), false);
    }
}
