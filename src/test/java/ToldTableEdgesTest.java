import java.util.Arrays;
import java.util.function.Supplier;

/** The boundary cases of promises 15 to 24, and of the LAWS. */
public final class ToldTableEdgesTest {
    private static final Due DUE = new Due("ToldTableEdgesTest");
    private static final Edges EDGES = new Edges(DUE);
    private static final int NUMBER = LikeNets.NUMBER;
    private static final int STATE = LikeNets.STATE;
    private static final int LAW = LikeNets.LAW;

    /** For each of the LAWS a table that breaks it and none ahead of it. */
    private static final int[][] BREAKS = {
        {}, {3, 2, 1, 0}, {3, 1, 1, 4}, {4, 2, 1, 1, 2, 1}, {4, 1, 1, 3}, {7, 6, 1, 2}, {4, 1, 1, 2}, {4, 2, 1, 4},
    };

    public static void main(String[] args) {
        tell();
        tellMakesAllOne();
        putRefusals();
        putEnds();
        takeRefusals();
        takeEnds();
        firstLaw();
        secondLaw();
        thirdLaw();
        fourthLaw();
        laterLaws();
        lawsInOrder();
        entryRefusals();
        entryLaws();
        entryEnds();
        posts();
        thirdRefusals();
        thirdEnds();
        rootRefusals();
        rootEnds();
        walksRefusals();
        walksEnds();
        bound();
        DUE.end();
    }

    private static void breaks(int law, int... numbers) {
        DUE.is("18: can() of " + Edges.text(numbers), Nets.told(numbers).can(), law);
    }

    private static void tell() {
        for (int d : Edges.outside(1, 5)) {
            EDGES.refused("15: tell(" + d + ")", Edges::busy, x -> x.tell(d), NUMBER);
        }
        EDGES.refused("15: tell(-5)", Edges::busy, x -> x.tell(-5), NUMBER);
        for (int d = 1; d <= 5; d++) {
            LikeNets x = Edges.busy();
            DUE.is("15: tell(" + d + ")", x.tell(d), 1);
            DUE.is("15: the last b of " + d, x.put(0, d - 1, 1), 1);
            DUE.is("15: no b more of " + d, x.put(0, d, 1), NUMBER);
            DUE.is("15: the last c of " + d, x.put(1, d, 1), 1);
            DUE.is("15: no c more of " + d, x.put(1, d + 1, 1), NUMBER);
            DUE.is("15: LAW or not of " + d, x.can(), d == 1 ? 0 : 2);
        }
        LikeNets x = Nets.told(3, 2, 1, 1);
        DUE.is("15: ahead of it", x.posts(), 10);
        DUE.is("15: the same LENGTH again", x.tell(2), 1);
        DUE.is("15: a LAW breaks at once", x.can(), 2);
        x.tell(1);
        DUE.is("15: and none at once", x.can(), 0);
        DUE.is("15: two POSTS at once", x.posts(), 2);
    }

    /** With all told being 1 but b(0), which is 2, the table is that of a ring of 2 d + 1 POSTS. */
    private static void tellMakesAllOne() {
        for (int before = 1; before <= 5; before++) {
            for (int d = 1; d <= 5; d++) {
                LikeNets x = new LikeNets();
                x.tell(before);
                for (int i = 0; i < before; i++) {
                    x.put(0, i, 20 - i);
                    x.put(1, i + 1, 7);
                }
                x.tell(d);
                x.put(0, 0, 2);
                String of = " of " + d + " after " + before;
                DUE.is("15: POSTS" + of, x.posts(), 2 * d + 1);
                DUE.is("15: c(0) is 0" + of, x.entry(0, 0), 0);
                DUE.is("15: b(d) is 0" + of, x.entry(d, 2), 0);
                for (int i = 1; i <= d; i++) {
                    DUE.is("15: c(" + i + ")" + of, x.entry(i, 0), 1);
                    DUE.is("15: b(" + (i - 1) + ")" + of, x.entry(i - 1, 2), i == 1 ? 2 : 1);
                }
            }
        }
    }

    private static void putRefusals() {
        for (int what : Edges.outside(0, 1)) {
            EDGES.refused("16: what " + what, Edges::busy, x -> x.put(what, 1, 1), NUMBER);
        }
        for (int v : Edges.outside(0, 20)) {
            EDGES.refused("16: b becomes " + v, Edges::busy, x -> x.put(0, 0, v), NUMBER);
            EDGES.refused("16: c becomes " + v, Edges::busy, x -> x.put(1, 2, v), NUMBER);
        }
        for (int d = 1; d <= 5; d++) {
            int length = d;
            Supplier<LikeNets> made = () -> {
                LikeNets x = Edges.busy();
                x.tell(length);
                x.put(0, 0, 2);
                return x;
            };
            for (int i : Edges.outside(0, d - 1)) {
                EDGES.refused("16: b(" + i + ") of " + d, made, x -> x.put(0, i, 1), NUMBER);
            }
            for (int i : Edges.outside(1, d)) {
                EDGES.refused("16: c(" + i + ") of " + d, made, x -> x.put(1, i, 1), NUMBER);
            }
        }
    }

    private static void putEnds() {
        for (int d = 1; d <= 5; d++) {
            for (int i = 0; i < d; i++) {
                LikeNets x = new LikeNets();
                x.tell(d);
                String of = " of " + d;
                DUE.is("16: b(" + i + ") becomes 0" + of, x.put(0, i, 0), 1);
                DUE.is("16: a LAW" + of, x.can(), 1);
                DUE.is("16: b(" + i + ") becomes 20" + of, x.put(0, i, 20), 1);
                DUE.is("16: no such LAW" + of, x.can() != 1, true);
                DUE.is("16: c(" + (i + 1) + ") becomes 0" + of, x.put(1, i + 1, 0), 1);
                DUE.is("16: a LAW again" + of, x.can(), 1);
                DUE.is("16: c(" + (i + 1) + ") becomes 20" + of, x.put(1, i + 1, 20), 1);
                DUE.is("16: LAW of c(1) or a later one" + of, x.can() == 1, i == 0);
            }
        }
        LikeNets x = Nets.told(20, 19, 1, 20);
        DUE.is("16: b(0) is 20", x.entry(0, 2), 20);
        DUE.is("16: c(2) is 20", x.entry(2, 0), 20);
    }

    private static void takeRefusals() {
        EDGES.refused("17: no POSTS", Edges.busyWithNet(0), LikeNets::take, STATE);
        EDGES.refused("17: FAR is 0", Edges.busyWithNet(1), LikeNets::take, STATE);
        EDGES.refused("17: not WHOLE", Edges.busyWithNet(2), LikeNets::take, STATE);
        EDGES.refused("17: not LIKE", Edges::busy, LikeNets::take, STATE);
        EDGES.refused("17: FAR is 6", Edges.busyWithMaking(0, 12, 0), LikeNets::take, STATE);
        EDGES.refused("17: FAR is 6, too", Edges.busyWithMaking(0, 13, 0), LikeNets::take, STATE);
        EDGES.refused("17: FAR is 16", Edges.busyWithMaking(0, 32, 0), LikeNets::take, STATE);
        EDGES.refused("17: b is 21", Edges.busyWithMaking(1, 22, 0), LikeNets::take, STATE);
        EDGES.refused("17: b is 31", Edges.busyWithMaking(1, 32, 0), LikeNets::take, STATE);
        EDGES.refused("17: b and c are 22", () -> heapsOfTwo(12), LikeNets::take, STATE);
    }

    /** Heaps of two POSTS, each two POSTS of different heaps joined. */
    private static LikeNets heapsOfTwo(int heaps) {
        LikeNets x = Edges.busy();
        x.net(2 * heaps);
        for (int p = 0; p < heaps; p++) {
            x.road(2 * p, 2 * p + 1, true);
        }
        x.other();
        return x;
    }

    private static void takeEnds() {
        LikeNets x = Edges.busy();
        x.build(1, 2, 0);
        DUE.is("17: FAR is 1", x.take(), 1);
        DUE.is("17: two POSTS", x.posts(), 2);
        x.build(1, 21, 0);
        DUE.is("17: b is 20", x.take(), 1);
        DUE.is("17: 21 POSTS", x.posts(), 21);
        x.build(0, 11, 0);
        DUE.is("17: FAR is 5", x.take(), 5);
        DUE.is("17: 11 POSTS", x.posts(), 11);
        x.build(0, 10, 0);
        DUE.is("17: FAR is 5, too", x.take(), 5);
        DUE.is("17: c(5) is 2", x.entry(5, 0), 2);
        DUE.is("17: b(5) is 0", x.entry(5, 2), 0);
        x.build(2, 2, 5);
        DUE.is("17: words", x.take(), 5);
        DUE.is("17: c(5) is 5", x.entry(5, 0), 5);
        DUE.is("17: 32 POSTS", x.posts(), 32);
        x.build(1, 2, 0);
        DUE.is("17: a shorter one", x.take(), 1);
        DUE.is("17: no row 2", x.entry(2, 0), NUMBER);
        x = heapsOfTwo(11);
        DUE.is("17: b and c are 20", x.take(), 2);
        DUE.is("17: c(2) is 20", x.entry(2, 0), 20);
    }

    /** All b and c told are 1 or more, and c(1) is 1: each told number is 0 in turn. */
    private static void firstLaw() {
        int[][] fine = {
            {5, 1}, {5, 1, 1, 1}, {5, 1, 1, 1, 1, 1}, {5, 1, 1, 1, 1, 1, 1, 1}, {5, 1, 1, 1, 1, 1, 1, 1, 1, 1},
        };
        for (int[] table : fine) {
            for (int i = 0; i < table.length; i++) {
                int[] broken = table.clone();
                broken[i] = 0;
                breaks(1, broken);
            }
            DUE.is("18: not the first LAW " + Edges.text(table), Nets.told(table).can() == 1, false);
            int[] second = table.clone();
            second[table.length / 2] = 2;
            breaks(1, second);
            second[table.length / 2] = 20;
            breaks(1, second);
        }
    }

    /** a(i) is k - b(i) - c(i): 0 may be, -1 may not, for each i. */
    private static void secondLaw() {
        breaks(0, 1, 1);
        breaks(2, 2, 2, 1, 1);
        breaks(0, 3, 2, 1, 3);
        breaks(2, 3, 3, 1, 3);
        breaks(2, 3, 2, 1, 4);
        breaks(0, 3, 2, 2, 1, 1, 3);
        breaks(2, 3, 2, 3, 1, 1, 3);
        breaks(2, 3, 2, 2, 1, 2, 3);
        breaks(2, 3, 2, 2, 1, 1, 4);
        breaks(0, 2, 1, 1, 1, 1, 1, 1, 1, 1, 2);
        breaks(2, 2, 1, 1, 1, 1, 1, 1, 1, 1, 3);
        breaks(2, 2, 1, 1, 1, 1, 1, 1, 1, 2, 2);
        breaks(2, 2, 1, 1, 1, 2, 1, 1, 1, 1, 2);
    }

    /** Alike ones may follow one another; the last b may be anything above 0, as b(d) does not count. */
    private static void thirdLaw() {
        breaks(0, 2, 1, 1, 1, 1, 1);
        breaks(3, 4, 1, 1, 1, 3, 2);
        breaks(3, 5, 2, 1, 1, 1, 1, 2, 1);
        breaks(3, 6, 2, 1, 1, 1, 1, 1, 1, 3, 2);
        breaks(3, 6, 1, 1, 1, 1, 1, 2, 1, 2, 2);
        breaks(3, 5, 1, 2, 1, 2, 2);
        breaks(3, 5, 2, 1, 2, 1, 1, 1, 1);
        breaks(3, 5, 2, 1, 1, 2, 1, 1, 1, 1, 1);
        DUE.is("18: b(1) is b(0), c(2) is c(1)", Nets.told(4, 3, 3, 1, 1, 2).can(), 0);
        DUE.is("18: b(2) is b(1)", Nets.told(5, 2, 2, 1, 1, 1).can() == 3, false);
        DUE.is("18: c(3) is c(2)", Nets.told(5, 2, 2, 1, 2, 2).can() == 3, false);
    }

    /** No table that keeps LAWS 1 to 3 and has whole k(i) has 99999 or 100000 POSTS. */
    private static void fourthLaw() {
        int[] most = {19, 15, 11, 11, 9, 1, 1, 1, 1, 5};
        DUE.is("18: 99998 POSTS", Nets.told(most).can() == 4, false);
        DUE.is("20: 99998 POSTS", Nets.told(most).posts(), 99998);
        int[] more = {20, 18, 17, 11, 7, 1, 1, 1, 1, 18};
        breaks(4, more);
        DUE.is("20: 100001 POSTS", Nets.told(more).posts(), LAW);
        breaks(4, 20, 19, 19, 19, 19, 1, 1, 1, 1, 1);
        breaks(4, 4, 1, 1, 3);
        breaks(4, 4, 2, 1, 3);
        DUE.is("18: 4 times 3 by 3", Nets.told(4, 3, 1, 3).can() == 4, false);
        breaks(4, 5, 3, 1, 1, 2, 2);
        // k(2) is 12 by 8, and k(3) would be whole again.
        breaks(4, 12, 4, 4, 1, 5, 8);
    }

    private static void laterLaws() {
        // k(1) a(1) is odd: 3 times 1; then k(2) a(2): 3 times 1.
        breaks(5, 3, 1, 1, 1, 1, 3);
        breaks(5, 3, 2, 1, 2);
        breaks(5, 7, 6, 1, 2);
        // All are whole, but the least is -1.
        breaks(6, 4, 1, 1, 2);
        breaks(6, 5, 2, 2, 1, 1, 1);
        // None below 0, but some that aren't whole.
        breaks(6, 4, 3, 2, 1, 2, 3);
        breaks(6, 4, 3, 1, 1, 2, 3);
        breaks(7, 4, 2, 1, 4);
        breaks(7, 7, 4, 1, 1);
        breaks(0, 7, 6, 1, 1);
        breaks(0, 20, 1);
        breaks(0, 20, 19, 1, 20);
    }

    private static void lawsInOrder() {
        for (int law = 1; law < BREAKS.length; law++) {
            breaks(law, BREAKS[law]);
        }
        // Each breaks the next one as well.
        breaks(1, 3, 3, 1, 0);
        breaks(1, 3, 3, 0, 1);
        breaks(2, 3, 3, 2, 1, 2, 1);
        breaks(3, 6, 3, 2, 1, 3, 2);
        DUE.is("18: a refused put mends nothing", putAndCan(), 1);
    }

    private static int putAndCan() {
        LikeNets x = Nets.told(3, 2, 1, 0);
        x.put(1, 2, 21);
        x.put(1, 3, 1);
        x.put(2, 2, 1);
        return x.can();
    }

    private static void entryRefusals() {
        for (int d = 1; d <= 5; d++) {
            int[] ring = new int[2 * d];
            Arrays.fill(ring, 1);
            ring[0] = 2;
            Supplier<LikeNets> made = Edges.busyWithTable(ring);
            for (int i : Edges.outside(0, d)) {
                EDGES.refused("19: entry(" + i + ", 0) of " + d, made, x -> x.entry(i, 0), NUMBER);
                EDGES.refused("19: entry(" + i + ", 3) of " + d, made, x -> x.entry(i, 3), NUMBER);
            }
            for (int what : Edges.outside(0, 3)) {
                EDGES.refused("19: entry(0, " + what + ") of " + d, made, x -> x.entry(0, what), NUMBER);
            }
        }
        Supplier<LikeNets> broken = Edges.busyWithTable(BREAKS[4]);
        for (int i : Edges.outside(0, 2)) {
            EDGES.refused("19: i " + i + " ahead of LAW", broken, x -> x.entry(i, 0), NUMBER);
        }
        for (int what : Edges.outside(0, 3)) {
            EDGES.refused("19: what " + what + " ahead of LAW", broken, x -> x.entry(0, what), NUMBER);
        }
    }

    private static void entryLaws() {
        for (int law = 1; law <= 4; law++) {
            Supplier<LikeNets> made = Edges.busyWithTable(BREAKS[law]);
            for (int what = 0; what < 4; what++) {
                int of = what;
                EDGES.refused("19: LAW " + law + ", what " + what, made, x -> x.entry(0, of), LAW);
                EDGES.refused("19: LAW " + law + ", the last, what " + what, made, x -> x.entry(2, of), LAW);
            }
        }
        int[] layers = {21, 2, 2};
        for (int law = 5; law <= 7; law++) {
            DUE.is("19: LAW " + law + " does not count", Nets.told(BREAKS[law]).entry(2, 3), layers[law - 5]);
        }
    }

    private static void entryEnds() {
        LikeNets x = Nets.told(2, 1, 1, 1, 1, 1, 1, 1, 1, 2);
        int[][] due = {{0, 0, 2, 1}, {1, 0, 1, 2}, {1, 0, 1, 2}, {1, 0, 1, 2}, {1, 0, 1, 2}, {2, 0, 0, 1}};
        for (int i = 0; i <= 5; i++) {
            for (int what = 0; what <= 3; what++) {
                DUE.is("19: entry(" + i + ", " + what + ")", x.entry(i, what), due[i][what]);
            }
        }
    }

    private static void posts() {
        int[] due = {29, 7, 7};
        for (int law = 1; law <= 4; law++) {
            EDGES.refused("20: LAW " + law, Edges.busyWithTable(BREAKS[law]), LikeNets::posts, LAW);
        }
        for (int law = 5; law <= 7; law++) {
            DUE.is("20: LAW " + law + " does not count", Nets.told(BREAKS[law]).posts(), due[law - 5]);
        }
        DUE.is("20: the fewest", Nets.told(1, 1).posts(), 2);
        DUE.is("20: 21", Nets.told(20, 1).posts(), 21);
    }

    private static void thirdRefusals() {
        Supplier<LikeNets> first = Edges.busyWithTable(BREAKS[1]);
        Supplier<LikeNets> sixth = Edges.busyWithTable(BREAKS[6]);
        for (int i : Edges.outside(0, 2)) {
            EDGES.refused("21: i " + i, Edges::busy, x -> x.third(i, 0, 0), NUMBER);
            EDGES.refused("21: j " + i, Edges::busy, x -> x.third(0, i, 0), NUMBER);
            EDGES.refused("21: l " + i, Edges::busy, x -> x.third(0, 0, i), NUMBER);
            EDGES.refused("21: i " + i + " ahead of LAW", sixth, x -> x.third(i, 0, 0), NUMBER);
            EDGES.refused("21: j " + i + " ahead of LAW", sixth, x -> x.third(0, i, 0), NUMBER);
            EDGES.refused("21: l " + i + " ahead of LAW", first, x -> x.third(0, 0, i), NUMBER);
        }
        for (int law = 1; law <= 6; law++) {
            Supplier<LikeNets> made = Edges.busyWithTable(BREAKS[law]);
            EDGES.refused("21: LAW " + law, made, x -> x.third(0, 0, 0), LAW);
            EDGES.refused("21: LAW " + law + ", the last", made, x -> x.third(2, 2, 2), LAW);
        }
        DUE.is("21: LAW 7 does not count", Nets.told(BREAKS[7]).third(0, 0, 0), 1);
        DUE.is("21: LAW 7 does not count, the last", Nets.told(BREAKS[7]).third(2, 2, 2), 1);
    }

    private static void thirdEnds() {
        LikeNets x = Nets.told(20, 1);
        int[] due = {1, 0, 0, 20, 0, 1, 1, 19};
        for (int at = 0; at < 8; at++) {
            DUE.is("21: d is 1, " + at, x.third(at / 4, at / 2 % 2, at % 2), due[at]);
        }
        // Words of 5 letters: of two that are all unlike.
        x = Nets.told(5, 4, 3, 2, 1, 1, 2, 3, 4, 5);
        int[] choose = {1, 5, 10, 10, 5, 1};
        for (int j = 0; j <= 5; j++) {
            DUE.is("21: d is 5, j is " + j, x.third(5, j, 5 - j), choose[j]);
            DUE.is("21: of one, j is " + j, x.third(0, j, j), choose[j]);
            DUE.is("21: none, j is " + j, x.third(5, j, (6 - j) % 6), 0);
        }
    }

    private static void rootRefusals() {
        int[] places = {-1, 0, 9, Edges.LEAST, Edges.GREATEST};
        for (int what : Edges.outside(0, 1)) {
            for (int i : places) {
                String of = "22: root(" + i + ", " + what + ")";
                EDGES.refused(of, Edges::busy, x -> x.root(i, what), -1000);
                EDGES.refused(of + " ahead of LAW", Edges.busyWithTable(BREAKS[6]), x -> x.root(i, what), -1000);
            }
        }
        for (int what = 0; what <= 1; what++) {
            int of = what;
            for (int law = 1; law <= 6; law++) {
                for (int i : places) {
                    EDGES.refused("22: LAW " + law + ", root(" + i + ", " + what + ")",
                        Edges.busyWithTable(BREAKS[law]), x -> x.root(i, of), -1001);
                }
            }
            for (int i : Edges.outside(0, 2)) {
                EDGES.refused("22: none such " + i, Edges::busy, x -> x.root(i, of), -1002);
            }
            for (int i : Edges.outside(0, 0)) {
                EDGES.refused("22: but one is whole " + i, Edges.busyWithTable(2, 1, 1, 1), x -> x.root(i, of), -1002);
            }
        }
    }

    private static void rootsAre(LikeNets x, String of, int[]... rootsAndTimes) {
        int count = rootsAndTimes[0].length;
        for (int i = 0; i < count; i++) {
            DUE.is("22: root " + i + " of " + of, x.root(i, 0), rootsAndTimes[0][i]);
            DUE.is("22: times of root " + i + " of " + of, x.root(i, 1), rootsAndTimes[1][i]);
        }
        DUE.is("22: no more of " + of, x.root(count, 0), -1002);
        DUE.is("22: no more times of " + of, x.root(count, 1), -1002);
    }

    private static void rootEnds() {
        rootsAre(new LikeNets(), "a new object", new int[] {1, -1}, new int[] {1, 1});
        rootsAre(Nets.told(20, 1), "21 joined", new int[] {20, -1}, new int[] {1, 20});
        rootsAre(Nets.told(20, 19, 1, 20), "20 and 20", new int[] {20, 0, -20}, new int[] {1, 38, 1});
        rootsAre(Nets.told(2, 1, 1, 1, 1, 1, 1, 1, 1, 2), "a ring of 10",
            new int[] {2, -2}, new int[] {1, 1});
        rootsAre(Nets.told(5, 4, 3, 2, 1, 1, 2, 3, 4, 5), "words of 5",
            new int[] {5, 3, 1, -1, -3, -5}, new int[] {1, 5, 10, 10, 5, 1});
        rootsAre(Nets.told(BREAKS[7]), "one that breaks LAW 7", new int[] {4, 0, -3}, new int[] {1, -1, -1});
        rootsAre(Nets.told(2, 1, 1, 1), "a ring of 5", new int[] {2}, new int[] {1});
        LikeNets x = Nets.told(5, 4, 3, 2, 1, 1, 2, 3, 4, 5);
        DUE.is("22: the last of six", x.root(5, 0), -5);
        Edges.told(x, 20, 19, 1, 20);
        rootsAre(x, "a later table", new int[] {20, 0, -20}, new int[] {1, 38, 1});
    }

    private static void walksRefusals() {
        Supplier<LikeNets> broken = Edges.busyWithTable(BREAKS[4]);
        for (int i : Edges.outside(0, 2)) {
            EDGES.refused("23: i " + i, Edges::busy, x -> x.walks(i, 1), NUMBER);
            EDGES.refused("23: i " + i + " ahead of LAW", broken, x -> x.walks(i, 1), NUMBER);
        }
        for (int m : Edges.outside(0, 8)) {
            EDGES.refused("23: m " + m, Edges::busy, x -> x.walks(1, m), NUMBER);
            EDGES.refused("23: m " + m + " ahead of LAW", broken, x -> x.walks(1, m), NUMBER);
        }
        for (int law = 1; law <= 4; law++) {
            EDGES.refused("23: LAW " + law, Edges.busyWithTable(BREAKS[law]), x -> x.walks(0, 0), LAW);
            EDGES.refused("23: LAW " + law + ", the last", Edges.busyWithTable(BREAKS[law]), x -> x.walks(2, 8), LAW);
        }
        int[] due = {7, 4, 4};
        for (int law = 5; law <= 7; law++) {
            DUE.is("23: LAW " + law + " does not count", Nets.told(BREAKS[law]).walks(0, 2), due[law - 5]);
        }
    }

    private static void walksEnds() {
        LikeNets x = Nets.told(5, 4, 3, 2, 1, 1, 2, 3, 4, 5);
        DUE.is("23: no ROAD to itself", x.walks(0, 0), 1);
        DUE.is("23: no ROAD to the farthest", x.walks(5, 0), 0);
        DUE.is("23: one too few to the farthest", x.walks(5, 4), 0);
        DUE.is("23: just enough to the farthest", x.walks(5, 5), 120);
        DUE.is("23: odd ones to itself", x.walks(0, 7), 0);
        x = new LikeNets();
        DUE.is("23: two POSTS, to and fro", x.walks(0, 8), 1);
        DUE.is("23: two POSTS, over", x.walks(1, 8), 0);
        // The most there may be: 20 to the power of 8 by two sides of 20 POSTS, or by 21 POSTS.
        DUE.is("23: the most", Nets.told(20, 19, 1, 20).walks(0, 8), 25600000000L / 20);
        DUE.is("23: the most to the farthest", Nets.told(20, 19, 1, 20).walks(2, 8), 25600000000L / 20);
        DUE.is("23: nearly all", Nets.told(20, 1).walks(1, 8), (25600000000L - 1) / 21);
    }

    private static void bound() {
        for (int k : Edges.outside(1, 60)) {
            EDGES.refused("24: bound(" + k + ", 1)", Edges::busy, x -> x.bound(k, 1), NUMBER);
            EDGES.refused("24: bound(" + k + ", 6)", Edges::busy, x -> x.bound(k, 6), NUMBER);
        }
        for (int d : Edges.outside(1, 6)) {
            EDGES.refused("24: bound(1, " + d + ")", Edges::busy, x -> x.bound(1, d), NUMBER);
            EDGES.refused("24: bound(60, " + d + ")", Edges::busy, x -> x.bound(60, d), NUMBER);
        }
        LikeNets x = new LikeNets();
        for (int d = 1; d <= 6; d++) {
            DUE.is("24: bound(1, " + d + ")", x.bound(1, d), 2);
            DUE.is("24: bound(2, " + d + ")", x.bound(2, d), 1 + 2 * d);
            DUE.is("24: bound(3, " + d + ")", x.bound(3, d), 3L * (1L << d) - 2);
        }
        DUE.is("24: bound(60, 1)", x.bound(60, 1), 61);
        DUE.is("24: bound(60, 5)", x.bound(60, 5), 739576861L);
        DUE.is("24: bound(60, 6)", x.bound(60, 6), 43635034801L);
    }
}
