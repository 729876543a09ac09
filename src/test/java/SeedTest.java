/**
 * Promise 28 at its edge: seeds 1 to 40 are tried, and no more.
 *
 * Kept lines lead from the source to relay 1, line i with factors (a_i, b_i). One drawn line goes from
 * there to end 2, which has piece 0 besides and so needs the sum of drawn factors times b; another goes
 * to end 3, which has piece 1 besides and needs that of a. A row of 21 numbers can be 0 in 20 such sums,
 * so b spoils the first 20 seeds and a the next ones.
 */
public final class SeedTest {
    private static final int WIDTH = 21;
    private static final int BY_B = 20;

    public static void main(String[] args) {
        MixingRelays last = spoiled(39);
        Check.due("seed 40 is the first that does", last.find(), 40);
        Check.due("found", last.left(), 0);

        MixingRelays none = spoiled(40);
        none.draw(77);
        int before = none.vector(WIDTH, 0);
        Check.due("none of 40 does", none.find(), MixingRelays.NONE);
        Check.due("factors as before", none.vector(WIDTH, 0), before);
        none.draw(41);
        Check.due("41 would have done", none.left(), 0);
        Check.finish();
    }

    private static MixingRelays spoiled(int seeds) {
        int[][] first = new int[BY_B][];
        for (int i = 0; i < BY_B; i++) {
            first[i] = drawn(i + 1, 0);
        }
        int[][] second = new int[seeds - BY_B][];
        for (int i = 0; i < second.length; i++) {
            second[i] = drawn(i + 1 + BY_B, WIDTH);
        }
        return build(zeroOf(second), zeroOf(first));
    }

    private static MixingRelays build(int[] a, int[] b) {
        MixingRelays net = Nets.withRelays(3);
        net.pieces(2);
        for (int i = 0; i < WIDTH; i++) {
            keptLine(net, 1, a[i], b[i]);
        }
        net.line(1, 2);
        net.line(1, 3);
        keptLine(net, 2, 1, 0);
        keptLine(net, 3, 0, 1);
        net.end(2, 1);
        net.end(3, 1);
        return net;
    }

    private static void keptLine(MixingRelays net, int to, int first, int second) {
        int line = net.line(0, to);
        net.factor(line, 0, first);
        net.factor(line, 1, second);
        net.keep(line, 1);
    }

    /** The numbers that a seed brings, from the one at skip on. */
    private static int[] drawn(int seed, int skip) {
        int[] row = new int[WIDTH];
        int x = seed;
        for (int i = 0; i < skip + WIDTH; i++) {
            x = 1103515245 * x + 12345;
            if (i >= skip) {
                row[i - skip] = x >>> 16 & 255;
            }
        }
        return row;
    }

    /** Numbers, not all 0, with which each row, multiplied and added, gives 0. */
    private static int[] zeroOf(int[][] rows) {
        int[] pivots = new int[rows.length];
        boolean[] isPivot = new boolean[WIDTH];
        int rank = 0;
        for (int column = 0; column < WIDTH && rank < rows.length; column++) {
            int at = rank;
            while (at < rows.length && rows[at][column] == 0) {
                at++;
            }
            if (at == rows.length) {
                continue;
            }
            int[] lead = rows[at];
            rows[at] = rows[rank];
            rows[rank] = scaled(lead, slowInverse(lead[column]));
            for (int other = 0; other < rows.length; other++) {
                if (other != rank) {
                    int[] part = scaled(rows[rank], rows[other][column]);
                    for (int c = 0; c < WIDTH; c++) {
                        rows[other][c] ^= part[c];
                    }
                }
            }
            pivots[rank++] = column;
            isPivot[column] = true;
        }
        int[] zero = new int[WIDTH];
        for (int column = 0; column < WIDTH; column++) {
            zero[column] = isPivot[column] ? 0 : 1;
        }
        for (int row = 0; row < rank; row++) {
            for (int column = 0; column < WIDTH; column++) {
                if (!isPivot[column]) {
                    zero[pivots[row]] ^= rows[row][column];
                }
            }
        }
        return zero;
    }

    private static int[] scaled(int[] row, int f) {
        int[] result = new int[row.length];
        for (int i = 0; i < row.length; i++) {
            result[i] = FieldTest.slowProduct(row[i], f);
        }
        return result;
    }

    private static int slowInverse(int a) {
        int b = 1;
        while (FieldTest.slowProduct(a, b) != 1) {
            b++;
        }
        return b;
    }
}
