import java.util.ArrayList;
import java.util.List;

/**
 * All that one can see of an object, as a list of answers. Looking changes the object (sheets are read by loading
 * them), and takes some 350 of its 512 calls: of two objects that were made alike one is looked at after a
 * refused call, the other without it.
 */
final class Seen {
    private static final int SMALL = 10;
    private final LikeNets x;
    private final List<Long> answers = new ArrayList<>();

    private Seen(LikeNets x) {
        this.x = x;
    }

    static List<Long> of(LikeNets x) {
        Seen seen = new Seen(x);
        seen.net();
        seen.told();
        seen.note(x.back());
        seen.net();
        for (int r = 0; r < 4; r++) {
            seen.sheet(r);
        }
        return seen.answers;
    }

    private void note(long answer) {
        answers.add(answer);
    }

    private void net() {
        for (int what = 0; what <= 9; what++) {
            note(x.many(what));
        }
        int n = x.many(0);
        if (n <= SMALL) {
            roads(n);
        } else {
            for (int p = 0; p < n; p++) {
                note(x.joined(p, (p + 1) % n) ? 1 : 0);
                note(x.joined(p, (p + n / 2) % n) ? 1 : 0);
            }
        }
    }

    private void roads(int n) {
        for (int p = 0; p < n; p++) {
            for (int q = p + 1; q < n; q++) {
                note(x.joined(p, q) ? 1 : 0);
            }
        }
    }

    /** The last c takes every value in turn, so that more is seen of a table that breaks a law. */
    private void told() {
        note(x.can());
        int length = 0;
        for (int i = 0; i <= 5; i++) {
            for (int what = 0; what < 4; what++) {
                note(x.entry(i, what));
            }
            length = x.entry(i, 0) == LikeNets.NUMBER ? length : i;
        }
        note(length);
        for (int v = 1; v <= 20; v++) {
            x.put(1, length, v);
            note(x.posts());
        }
    }

    private void sheet(int r) {
        x.net(6);
        for (int i = 0; i < 5; i++) {
            note(x.load(r, i, 1));
        }
        roads(6);
        int[] edges = {0, 5, 6, 59};
        for (int i : edges) {
            note(x.cell(r, i, 0));
        }
        // A byte makes 1 of both numbers, a short of the second one alone, and an int of none.
        int[] tries = {256 + 1, 65536 + 1};
        for (int v : tries) {
            x.net(2);
            x.cell(r, 0, v);
            x.cell(r, 1, 0);
            note(x.load(r, 0, 1));
        }
    }
}
