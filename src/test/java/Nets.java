/** Nets that several tests begin with. */
final class Nets {
    private Nets() {
    }

    static MixingRelays withRelays(int more) {
        MixingRelays net = new MixingRelays();
        for (int i = 0; i < more; i++) {
            net.relay();
        }
        return net;
    }

    /** Lines from the source to relay 1, one for each row, with the rows as their factors. */
    static MixingRelays star(int h, int[][] rows) {
        MixingRelays net = withRelays(1);
        net.pieces(h);
        for (int[] row : rows) {
            int line = net.line(0, 1);
            for (int p = 0; p < row.length; p++) {
                net.factor(line, p, row[p]);
            }
        }
        net.end(1, 1);
        return net;
    }

    /** Two pieces, two ends (5, 6), and line 4 which both have to share. All factors are 1 or, of line 0 and 1, units. */
    static MixingRelays butterfly() {
        MixingRelays net = withRelays(6);
        net.pieces(2);
        net.piece(0, 0x0102030405060708L);
        net.piece(1, -5L);
        int[][] lines = {{0, 1}, {0, 2}, {1, 3}, {2, 3}, {3, 4}, {1, 5}, {4, 5}, {2, 6}, {4, 6}};
        for (int[] line : lines) {
            net.line(line[0], line[1]);
        }
        net.factor(0, 0, 1);
        net.factor(1, 1, 1);
        for (int line = 2; line < 9; line++) {
            for (int i = 0; i < net.about(line, 2); i++) {
                net.factor(line, i, 1);
            }
        }
        net.end(5, 1);
        net.end(6, 1);
        return net;
    }

    /** Two relays besides the source, the second an end, four pieces, and no line. */
    static MixingRelays bare() {
        MixingRelays net = withRelays(2);
        net.pieces(4);
        for (int p = 0; p < 4; p++) {
            net.piece(p, 0x8102030405060708L * (p + 1));
        }
        net.end(2, 1);
        return net;
    }

    /**
     * Three pieces, relays up to 6, lines up to 9, and something told of each kind: lines 1 and 4 are kept,
     * 7 is broken and bent, 3 is bent, 5 and 6 are ends.
     */
    static MixingRelays lively() {
        MixingRelays net = withRelays(6);
        net.pieces(3);
        for (int p = 0; p < 3; p++) {
            net.piece(p, 0x8102030405060708L * (p + 1));
        }
        int[][] lines = {{0, 1}, {0, 2}, {1, 3}, {2, 3}, {3, 4}, {1, 5}, {4, 5}, {2, 6}, {4, 6}, {0, 6}};
        for (int[] line : lines) {
            net.line(line[0], line[1]);
        }
        net.draw(7);
        net.keep(1, 1);
        net.keep(4, 1);
        net.broken(7, 1);
        net.bend(7, Long.MIN_VALUE);
        net.bend(3, 0xff00L);
        net.end(5, 1);
        net.end(6, 1);
        return net;
    }

    /** Twelve relays and thirty lines: 0 to 10 from each relay to the next, the others from the source. */
    static MixingRelays full() {
        MixingRelays net = withRelays(11);
        net.piece(0, -7L);
        for (int line = 0; line < 30; line++) {
            net.line(line < 11 ? line : 0, line % 11 + 1);
        }
        net.draw(3);
        net.end(11, 1);
        return net;
    }
}
