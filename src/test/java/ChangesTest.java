import java.util.ArrayList;
import java.util.List;
import java.util.function.Supplier;
import java.util.function.ToLongFunction;

/** What was asked of a net ahead of a change must not be answered after it: promises 5 to 9 and 25 to 32. */
public final class ChangesTest {
    private static final Due DUE = new Due("ChangesTest");

    public static void main(String[] args) {
        Supplier<LikeNets> busy = Edges::busy;
        Supplier<LikeNets> ring = Edges.busyWithMaking(0, 8, 0);
        changes("5: net", busy, x -> x.net(5), 1);
        changes("5: net without POSTS", busy, x -> x.net(0), 1);
        changes("6: road on", busy, x -> x.road(1, 3, true), 1);
        changes("6: road off", busy, x -> x.road(0, 1, false), 1);
        changes("7: load", Edges.busyWithNet(5, 0, 4), x -> x.load(0, 0, 3), 3);
        changes("9: build", busy, x -> x.build(0, 5, 0), 5);
        changes("25: fold", ring, LikeNets::fold, 4);
        changes("26: half", ring, LikeNets::half, 4);
        changes("27: twice", busy, LikeNets::twice, 10);
        changes("28: power", ring, x -> x.power(2), 8);
        changes("29: other", busy, LikeNets::other, 4);
        changes("30: lines", busy, LikeNets::lines, 6);
        changes("32: back", busy, LikeNets::back, 1);
        stays("4: lose", busy, x -> x.lose(0), 1);
        stays("15: tell", busy, x -> x.tell(5), 1);
        stays("17: take", ring, LikeNets::take, 4);
        stays("31: keep", busy, LikeNets::keep, 1);
        stays("5: refused", busy, x -> x.net(33), LikeNets.NUMBER);
        stays("9: refused", busy, x -> x.build(0, 33, 0), LikeNets.FULL);
        stays("25: refused", busy, LikeNets::fold, LikeNets.STATE);
        DUE.end();
    }

    private static List<Long> asked(LikeNets x) {
        List<Long> answers = new ArrayList<>();
        for (int what = 0; what <= 9; what++) {
            answers.add((long) x.many(what));
        }
        for (int i = 0; i <= 3; i++) {
            answers.add((long) x.clash(i % 2));
            answers.add((long) x.table(i / 2, 2 * (i % 2)));
            answers.add((long) x.way(i, i + 1));
            answers.add((long) x.thirds(0, i, 1, 1));
            answers.add((long) x.perfect(i));
            answers.add((long) x.heap(i, 1));
            answers.add((long) x.kind(i, 3));
            answers.add((long) x.kinds());
        }
        return answers;
    }

    private static void changes(String call, Supplier<LikeNets> made, ToLongFunction<LikeNets> change, long due) {
        // The last one asked is kept longest, so each heap is asked for last once.
        for (int e = 0; e <= 6; e++) {
            LikeNets x = made.get();
            List<Long> before = asked(x);
            x.perfect(e);
            DUE.is(call, change.applyAsLong(x), due);
            LikeNets fresh = made.get();
            change.applyAsLong(fresh);
            DUE.is(call + ": heap by " + e, x.perfect(e), fresh.perfect(e));
            List<Long> after = asked(x);
            DUE.is(call + ": as if never asked", after.equals(asked(fresh)), true);
            DUE.is(call + ": not as before", after.equals(before), false);
        }
    }

    private static void stays(String call, Supplier<LikeNets> made, ToLongFunction<LikeNets> change, long due) {
        LikeNets x = made.get();
        List<Long> before = asked(x);
        DUE.is(call, change.applyAsLong(x), due);
        DUE.is(call + ": as before", asked(x).equals(before), true);
    }
}
