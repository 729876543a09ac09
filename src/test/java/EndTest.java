/** Promises 19 to 26: what ends work out. */
public final class EndTest {
    public static void main(String[] args) {
        newLines();
        keys();
        partly();
        lacks();
        misled();
        refusals();
        Check.finish();
    }

    private static void newLines() {
        MixingRelays net = Nets.star(3, new int[][] {{0, 0, 0}, {2, 4, 0}, {3, 6, 0}, {1, 0, 0}, {0, 1, 0}, {5, 5, 5}, {1, 2, 3}});
        Check.due("rank", net.rank(1), 3);
        Check.due("fresh 0", net.fresh(1, 0), 1);
        Check.due("fresh 1", net.fresh(1, 1), 3);
        Check.due("fresh 2", net.fresh(1, 2), 5);
        Check.due("fresh 3", net.fresh(1, 3), MixingRelays.NONE);
        Check.due("fresh -1", net.fresh(1, -1), MixingRelays.NONE);
        net.broken(1, 1);
        Check.due("fresh 0, broken", net.fresh(1, 0), 2);
        net.broken(5, 1);
        Check.due("rank, broken", net.rank(1), 3);
        Check.due("fresh 2, broken", net.fresh(1, 2), 6);
        net.broken(6, 1);
        Check.due("rank, broken", net.rank(1), 2);
    }

    private static void keys() {
        int[][] rows = {{7, 1, 9, 2}, {200, 31, 4, 90}, {1, 1, 1, 1}, {13, 0, 255, 8}};
        MixingRelays net = Nets.star(4, rows);
        for (int p = 0; p < 4; p++) {
            net.piece(p, 0x1122334455667788L * (p + 3));
        }
        for (int p = 0; p < 4; p++) {
            Check.due("solves", net.solves(1, p), 1);
            Check.due("gets", net.gets(1, p), 0x1122334455667788L * (p + 3));
            Check.due("lack, worked out", net.lack(1, p, 0), MixingRelays.NONE);
            Check.due("key 4", net.key(1, p, 4), MixingRelays.NONE);
            Check.due("key -1", net.key(1, p, -1), MixingRelays.NONE);
            for (int q = 0; q < 4; q++) {
                int sum = 0;
                for (int i = 0; i < 4; i++) {
                    sum ^= FieldTest.slowProduct(net.key(1, p, i), rows[i][q]);
                }
                Check.due("key for " + p + " at " + q, sum, p == q ? 1 : 0);
            }
        }
        Check.due("left", net.left(), 0);
        Check.due("wrong", net.wrong(), 0);
    }

    /** Rank 2, but of the three pieces just the middle one is worked out, by the second new line twice. */
    private static void partly() {
        MixingRelays net = Nets.star(3, new int[][] {{1, 0, 1}, {0, 2, 0}});
        net.piece(1, 0x55);
        Check.due("solves 0", net.solves(1, 0), 0);
        Check.due("solves 1", net.solves(1, 1), 1);
        Check.due("solves 2", net.solves(1, 2), 0);
        Check.due("key of 0", net.key(1, 0, 0), MixingRelays.NONE);
        Check.due("key 0", net.key(1, 1, 0), 0);
        Check.due("key 1", net.key(1, 1, 1), 141);
        Check.due("key 2", net.key(1, 1, 2), MixingRelays.NONE);
        Check.due("gets 0", net.gets(1, 0), 0);
        Check.due("gets 1", net.gets(1, 1), 0x55);
        Check.due("left", net.left(), 1);
    }

    private static void lack(MixingRelays net, int p, int... want) {
        for (int q = 0; q < want.length; q++) {
            Check.due("lack(1, " + p + ", " + q + ")", net.lack(1, p, q), want[q]);
        }
    }

    private static void lacks() {
        MixingRelays empty = Nets.star(3, new int[0][]);
        lack(empty, 0, 1, 0, 0);
        lack(empty, 2, 0, 0, 1);
        MixingRelays equal = Nets.star(3, new int[][] {{1, 1, 1}});
        lack(equal, 0, 1, 0, 1);
        lack(equal, 1, 0, 1, 1);
        lack(equal, 2, 0, 1, 1);
        MixingRelays scaled = Nets.star(2, new int[][] {{2, 1}});
        lack(scaled, 0, 1, 2);
        lack(scaled, 1, 141, 1);
        MixingRelays wide = Nets.star(4, new int[][] {{1, 2, 0, 0}, {0, 0, 1, 1}});
        lack(wide, 0, 1, 141, 0, 0);
        lack(wide, 1, 2, 1, 0, 0);
        lack(wide, 2, 0, 0, 1, 1);
        lack(wide, 3, 0, 0, 1, 1);
    }

    private static void misled() {
        MixingRelays net = Nets.butterfly();
        Check.due("wrong, none", net.wrong(), 0);
        net.bend(5, 0x0f00);
        Check.due("wrong, one", net.wrong(), 1);
        Check.due("gets(5, 0)", net.gets(5, 0), 0x0102030405060808L);
        Check.due("gets(6, 0)", net.gets(6, 0), 0x0102030405060708L);
        net.end(5, 0);
        Check.due("wrong, no end", net.wrong(), 0);
        net.end(5, 1);
        net.bend(4, 1);
        Check.due("wrong, two", net.wrong(), 2);
        net.broken(5, 1);
        Check.due("nothing worked out is not wrong", net.wrong(), 1);
        Check.due("left", net.left(), 1);
        net.broken(4, 1);
        Check.due("left", net.left(), 2);
        Check.due("broken lines do not bend", net.wrong(), 0);
        Check.due("worked out still", net.gets(6, 1), -5);
        Check.due("not worked out", net.gets(6, 0), 0);
    }

    private static void refusals() {
        MixingRelays net = Nets.butterfly();
        Check.due("rank(0)", net.rank(0), MixingRelays.BAD);
        Check.due("rank(7)", net.rank(7), MixingRelays.NONE);
        Check.due("rank(-1)", net.rank(-1), MixingRelays.NONE);
        Check.due("fresh(0, 0)", net.fresh(0, 0), MixingRelays.BAD);
        Check.due("fresh(0, 1000)", net.fresh(0, 1000), MixingRelays.BAD);
        Check.due("fresh(0, -1)", net.fresh(0, -1), MixingRelays.NONE);
        Check.due("fresh(0, least)", net.fresh(0, Integer.MIN_VALUE), MixingRelays.NONE);
        Check.due("fresh(5, -1)", net.fresh(5, -1), MixingRelays.NONE);
        Check.due("fresh(7, -1)", net.fresh(7, -1), MixingRelays.NONE);
        Check.due("fresh(7, 0)", net.fresh(7, 0), MixingRelays.NONE);
        Check.due("solves(0, 0)", net.solves(0, 0), MixingRelays.BAD);
        Check.due("solves(0, 2)", net.solves(0, 2), MixingRelays.NONE);
        Check.due("solves(5, -1)", net.solves(5, -1), MixingRelays.NONE);
        Check.due("solves(7, 0)", net.solves(7, 0), MixingRelays.NONE);
        Check.due("key(0, 0, 0)", net.key(0, 0, 0), MixingRelays.BAD);
        Check.due("key(0, 0, 1000)", net.key(0, 0, 1000), MixingRelays.BAD);
        Check.due("key(0, 0, -1)", net.key(0, 0, -1), MixingRelays.NONE);
        Check.due("key(0, 0, least)", net.key(0, 0, Integer.MIN_VALUE), MixingRelays.NONE);
        Check.due("key(0, 2, -1)", net.key(0, 2, -1), MixingRelays.NONE);
        Check.due("key(5, 0, -1)", net.key(5, 0, -1), MixingRelays.NONE);
        Check.due("key(0, 2, 0)", net.key(0, 2, 0), MixingRelays.NONE);
        Check.due("key(7, 0, 0)", net.key(7, 0, 0), MixingRelays.NONE);
        Check.due("gets(0, 0)", net.gets(0, 0), 0);
        Check.due("gets(7, 0)", net.gets(7, 0), 0);
        Check.due("gets(5, 2)", net.gets(5, 2), 0);
        Check.due("gets(5, -1)", net.gets(5, -1), 0);
        Check.due("lack(0, 0, 0)", net.lack(0, 0, 0), MixingRelays.BAD);
        Check.due("lack(0, 0, 2)", net.lack(0, 0, 2), MixingRelays.NONE);
        Check.due("lack(0, -1, 0)", net.lack(0, -1, 0), MixingRelays.NONE);
        Check.due("lack(1, 1, 2)", net.lack(1, 1, 2), MixingRelays.NONE);
        Check.due("lack(1, 1, -1)", net.lack(1, 1, -1), MixingRelays.NONE);
        Check.due("lack(1, 1, 1)", net.lack(1, 1, 1), 1);
        Check.due("lack(7, 0, 0)", net.lack(7, 0, 0), MixingRelays.NONE);
    }
}
