/** Promises 30 and 31: safe and breaks. */
public final class BreakTest {
    public static void main(String[] args) {
        butterfly();
        pairs();
        withBroken();
        withoutEnds();
        refusals();
        Check.finish();
    }

    private static void first(MixingRelays net, int k, int r, int... want) {
        Check.due("safe(" + k + ", " + r + ")", net.safe(k, r), want[0] == MixingRelays.NONE && want[2] == MixingRelays.NONE ? 1 : 0);
        for (int what = 0; what < 3; what++) {
            Check.due("breaks(" + k + ", " + r + ", " + what + ")", net.breaks(k, r, what), want[what]);
        }
    }

    private static void butterfly() {
        MixingRelays net = Nets.butterfly();
        first(net, 0, 2, -1, -1, -1);
        first(net, 1, 1, -1, -1, -1);
        first(net, 1, 2, 0, -1, 5);
        first(net, 2, 1, 0, 1, 5);
        first(net, 2, 2, 0, -1, 5);
        first(net, 2, 0, -1, -1, -1);
        net.factor(4, 0, 0);
        first(net, 0, 2, -1, -1, 6);
        first(net, 0, 1, -1, -1, -1);
        first(net, 1, 1, 1, -1, 6);
        Check.due("trying breaks none", net.count(4), 0);
        Check.due("nor vectors", net.vector(4, 1), 1);
    }

    private static void pairs() {
        MixingRelays net = Nets.star(1, new int[][] {{0}, {1}, {0}, {1}, {0}});
        first(net, 1, 1, -1, -1, -1);
        first(net, 2, 1, 1, 3, 1);
        net.factor(4, 0, 5);
        first(net, 2, 1, -1, -1, -1);
    }

    private static void withBroken() {
        MixingRelays net = Nets.star(1, new int[][] {{1}, {2}, {3}});
        first(net, 2, 1, -1, -1, -1);
        net.broken(0, 1);
        first(net, 1, 1, -1, -1, -1);
        first(net, 2, 1, 1, 2, 1);
        net.broken(2, 1);
        first(net, 2, 1, 1, -1, 1);
        net.broken(1, 1);
        first(net, 0, 1, -1, -1, 1);
    }

    private static void withoutEnds() {
        MixingRelays net = Nets.star(1, new int[][] {{1}});
        net.end(1, 0);
        first(net, 2, 1, -1, -1, -1);
    }

    private static void refusals() {
        MixingRelays net = Nets.butterfly();
        int bad = MixingRelays.BAD;
        int[][] wrong = {{-1, 0}, {3, 0}, {0, -1}, {0, 3}};
        for (int[] pair : wrong) {
            Check.due("safe", net.safe(pair[0], pair[1]), bad);
            Check.due("breaks", net.breaks(pair[0], pair[1], 0), bad);
            Check.due("breaks, NONE ahead", net.breaks(pair[0], pair[1], 3), MixingRelays.NONE);
        }
        Check.due("breaks, what 3", net.breaks(1, 2, 3), MixingRelays.NONE);
        Check.due("breaks, what -1", net.breaks(1, 2, -1), MixingRelays.NONE);
    }
}
