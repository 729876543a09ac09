/** Nets that several tests begin with. */
final class Nets {
    private Nets() {
    }

    static MixingRelays withRelays(int more) {
        MixingRelays net = new MixingRelays();
        for (int i = 0; i < more; i++) {
            net.relay();
        }
        return net;
    }

    /** Lines from the source to relay 1, one for each row, with the rows as their factors. */
    static MixingRelays star(int h, int[][] rows) {
        MixingRelays net = withRelays(1);
        net.pieces(h);
        for (int[] row : rows) {
            int line = net.line(0, 1);
            for (int p = 0; p < row.length; p++) {
                net.factor(line, p, row[p]);
            }
        }
        net.end(1, 1);
        return net;
    }

    /** Two pieces, two ends (5, 6), and line 4 which both have to share. All factors are 1 or, of line 0 and 1, units. */
    static MixingRelays butterfly() {
        MixingRelays net = withRelays(6);
        net.pieces(2);
        net.piece(0, 0x0102030405060708L);
        net.piece(1, -5L);
        int[][] lines = {{0, 1}, {0, 2}, {1, 3}, {2, 3}, {3, 4}, {1, 5}, {4, 5}, {2, 6}, {4, 6}};
        for (int[] line : lines) {
            net.line(line[0], line[1]);
        }
        net.factor(0, 0, 1);
        net.factor(1, 1, 1);
        for (int line = 2; line < 9; line++) {
            for (int i = 0; i < net.about(line, 2); i++) {
                net.factor(line, i, 1);
            }
        }
        net.end(5, 1);
        net.end(6, 1);
        return net;
    }
}
