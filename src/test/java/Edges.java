import java.util.Arrays;
import java.util.List;
import java.util.function.Supplier;
import java.util.function.ToLongFunction;

/** What the tests of boundary cases share. */
final class Edges {
    static final int LEAST = Integer.MIN_VALUE;
    static final int GREATEST = Integer.MAX_VALUE;

    private final Due due;

    Edges(Due due) {
        this.due = due;
    }

    /** The first ones that are not from least to most, on both ends, and the least and the greatest int. */
    static int[] outside(int least, int most) {
        return new int[] {least - 1, most + 1, LEAST, GREATEST};
    }

    /** The call is refused for that reason, and one sees no difference to an object on which it was not called. */
    void refused(String call, Supplier<LikeNets> made, ToLongFunction<LikeNets> asked, long why) {
        LikeNets x = made.get();
        due.is(call, asked.applyAsLong(x), why);
        due.is(call + " again", asked.applyAsLong(x), why);
        List<Long> got = Seen.of(x);
        due.is(call + " changes nothing", got.equals(Seen.of(made.get())), true);
    }

    /** What is asked of two POSTS. */
    interface OfTwo {
        long asked(LikeNets x, int p, int q);
    }

    /** NUMBER if the one, the other or both are no POST, in nets of few and of many POSTS, all of them joined. */
    void noPost(String call, OfTwo of) {
        for (int n : new int[] {0, 1, 2, 31, 32}) {
            Supplier<LikeNets> made = n == 0 ? busyWithNet(0) : busyWithMaking(1, n, 0);
            for (int p : outside(0, n - 1)) {
                String text = call + " with " + p + " of " + n;
                refused(text + " first", made, x -> of.asked(x, p, 0), LikeNets.NUMBER);
                refused(text + " second", made, x -> of.asked(x, 0, p), LikeNets.NUMBER);
                refused(text + " twice", made, x -> of.asked(x, p, p), LikeNets.NUMBER);
            }
        }
    }

    /** Sheets of each kind and a missing one, roads, a kept net and a told table, all of them small. */
    static LikeNets busy() {
        LikeNets x = new LikeNets();
        sheet(x, 0, 0, 0, 1, 1, 2, 4, 3);
        sheet(x, 1, 1, 5, 0, 3, 5);
        x.sheet(2, 2, 60);
        x.cell(2, 1, 2);
        x.cell(2, 4, 3);
        x.build(0, 4, 0);
        x.keep();
        roads(x, 5, 0, 1, 1, 2, 2, 3, 3, 4, 4, 0, 0, 2);
        told(x, 3, 2, 1, 1);
        return x;
    }

    static void sheet(LikeNets x, int r, int kind, int... cells) {
        x.sheet(r, kind, cells.length);
        for (int i = 0; i < cells.length; i++) {
            x.cell(r, i, cells[i]);
        }
    }

    static void roads(LikeNets x, int n, int... pairs) {
        x.net(n);
        for (int i = 0; i + 1 < pairs.length; i += 2) {
            x.road(pairs[i], pairs[i + 1], true);
        }
    }

    /** The first d numbers are b(0) to b(d - 1), the rest c(1) to c(d). */
    static void told(LikeNets x, int... numbers) {
        int d = numbers.length / 2;
        x.tell(d);
        for (int i = 0; i < d; i++) {
            x.put(0, i, numbers[i]);
            x.put(1, i + 1, numbers[d + i]);
        }
    }

    static Supplier<LikeNets> busyWithNet(int n, int... pairs) {
        return () -> {
            LikeNets x = busy();
            roads(x, n, pairs);
            return x;
        };
    }

    static Supplier<LikeNets> busyWithMaking(int kind, int a, int b) {
        return () -> {
            LikeNets x = busy();
            x.build(kind, a, b);
            return x;
        };
    }

    static Supplier<LikeNets> busyWithTable(int... numbers) {
        return () -> {
            LikeNets x = busy();
            told(x, numbers);
            return x;
        };
    }

    static String text(int... numbers) {
        return Arrays.toString(numbers);
    }
}
