/** Nets that several tests want and that no told making makes. */
final class Nets {
    private Nets() {
    }

    static LikeNets path(int n) {
        LikeNets x = new LikeNets();
        x.net(n);
        for (int p = 0; p + 1 < n; p++) {
            x.road(p, p + 1, true);
        }
        return x;
    }
}
