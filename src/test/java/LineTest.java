/** Promises 17 and 18: what lines say and carry. */
public final class LineTest {
    private static final long EIGHT = 0x8040201008040201L;

    public static void main(String[] args) {
        vectorFromTheSource();
        vectorOfOthers();
        vectorsAreAddedByExclusiveOr();
        insWithGreaterNumbers();
        throughAllRelays();
        productWithEachByte();
        highestByte();
        piecesAreAdded();
        carriesWithoutFactors();
        brokenSaysNought();
        brokenFurtherOn();
        bentByExclusiveOr();
        bentFurtherOn();
        bentSaysTheSame();
        bentWithoutIns();
        bentAndBroken();
        lastOfAll();
        Check.finish();
    }

    private static void vector(MixingRelays net, int line, int... want) {
        for (int p = 0; p < want.length; p++) {
            Check.due("vector(" + line + ", " + p + ")", net.vector(line, p), want[p]);
        }
        Check.due("vector beyond", net.vector(line, want.length), MixingRelays.NONE);
        Check.due("vector(-1)", net.vector(line, -1), MixingRelays.NONE);
    }

    private static MixingRelays oneLine(long bytes, int factor) {
        MixingRelays net = Nets.withRelays(1);
        net.piece(0, bytes);
        net.line(0, 1);
        net.factor(0, 0, factor);
        return net;
    }

    /** "of one from the SOURCE its FACTORS" */
    private static void vectorFromTheSource() {
        MixingRelays net = Nets.star(4, new int[][] {{0, 255, 1, 128}, {0, 0, 0, 0}});
        vector(net, 0, 0, 255, 1, 128);
        vector(net, 1, 0, 0, 0, 0);
        vector(Nets.star(1, new int[][] {{255}}), 0, 255);
    }

    /** "of others the sum of its FACTORS times the VECTORS of its INS" */
    private static void vectorOfOthers() {
        MixingRelays net = Nets.butterfly();
        vector(net, 4, 1, 1);
        net.factor(6, 0, 3);
        vector(net, 6, 3, 3);
        net.factor(0, 0, 128);
        vector(net, 6, 0x9b, 3);
        net.factor(6, 0, 0);
        vector(net, 6, 0, 0);
    }

    private static void vectorsAreAddedByExclusiveOr() {
        MixingRelays net = Nets.star(2, new int[][] {{255, 1}, {255, 2}});
        net.relay();
        net.line(1, 2);
        net.factor(2, 0, 1);
        net.factor(2, 1, 1);
        vector(net, 2, 0, 3);
    }

    /** A line's INS may have numbers above its own. */
    private static void insWithGreaterNumbers() {
        MixingRelays net = Nets.withRelays(3);
        net.piece(0, EIGHT);
        net.line(2, 3);
        net.line(1, 2);
        net.line(0, 1);
        for (int line = 0; line < 3; line++) {
            net.factor(line, 0, 2);
        }
        vector(net, 0, 8);
        Check.due("carries(2)", net.carries(2), 0x1b80402010080402L);
        Check.due("carries(0)", net.carries(0), 0x6c361b8040201008L);
    }

    /** Eleven lines one behind the other, told from the last on. */
    private static void throughAllRelays() {
        MixingRelays net = Nets.withRelays(11);
        net.piece(0, 1);
        for (int line = 0; line < 11; line++) {
            net.line(10 - line, 11 - line);
        }
        for (int line = 0; line < 11; line++) {
            net.factor(line, 0, 2);
        }
        vector(net, 0, 0xd8);
        Check.due("carries(0)", net.carries(0), 0xd8);
    }

    /** "A product of a number and a row of bytes is that with each byte." */
    private static void productWithEachByte() {
        Check.due("carries", oneLine(EIGHT, 2).carries(0), 0x1b80402010080402L);
        Check.due("all 255", oneLine(-1, 255).carries(0), 0x1313131313131313L);
        Check.due("all 128", oneLine(0x8080808080808080L, 2).carries(0), 0x1b1b1b1b1b1b1b1bL);
        Check.due("by 0", oneLine(-1, 0).carries(0), 0);
        Check.due("by 1", oneLine(EIGHT, 1).carries(0), EIGHT);
        for (int at = 0; at < 64; at += 8) {
            Check.due("one byte alone", oneLine(0xffL << at, 255).carries(0), 0x13L << at);
        }
    }

    private static void highestByte() {
        Check.due("its last bit", oneLine(1L << 56, 128).carries(0), Long.MIN_VALUE);
        Check.due("its first bit", oneLine(Long.MIN_VALUE, 2).carries(0), 0x1b00000000000000L);
        Check.due("the lowest one's", oneLine(128, 2).carries(0), 0x1b);
    }

    /** "from the SOURCE the sum of its FACTORS times the PIECES" */
    private static void piecesAreAdded() {
        MixingRelays net = Nets.star(4, new int[][] {{1, 2, 3, 0}});
        net.piece(0, 0x10);
        net.piece(1, 0x80);
        net.piece(2, 0x0100);
        net.piece(3, -1);
        Check.due("carries", net.carries(0), 0x030b);
        net.piece(1, 0);
        Check.due("carries", net.carries(0), 0x0310);
    }

    private static void carriesWithoutFactors() {
        MixingRelays net = Nets.withRelays(2);
        net.piece(0, -1);
        net.line(0, 1);
        net.line(1, 2);
        Check.due("from the SOURCE", net.carries(0), 0);
        net.factor(0, 0, 1);
        Check.due("from the SOURCE", net.carries(0), -1);
        Check.due("from a relay", net.carries(1), 0);
        net.factor(1, 0, 1);
        Check.due("from a relay", net.carries(1), -1);
    }

    /** "A BROKEN LINE has a VECTOR of 0s, and carries 0s." */
    private static void brokenSaysNought() {
        MixingRelays net = Nets.butterfly();
        net.broken(0, 1);
        vector(net, 0, 0, 0);
        Check.due("broken", net.carries(0), 0);
        net.broken(0, 0);
        vector(net, 0, 1, 0);
        Check.due("mended", net.carries(0), 0x0102030405060708L);
    }

    private static void brokenFurtherOn() {
        MixingRelays net = Nets.butterfly();
        net.broken(0, 1);
        vector(net, 4, 0, 1);
        vector(net, 5, 0, 0);
        Check.due("the other is left", net.carries(4), -5);
        net.broken(4, 1);
        vector(net, 6, 0, 0);
        Check.due("none is left", net.carries(6), 0);
    }

    /** "if it is BENT by a row of bytes, the exclusive or of that with it" */
    private static void bentByExclusiveOr() {
        MixingRelays net = oneLine(0x0102030405060708L, 1);
        net.bend(0, 255);
        Check.due("the last byte", net.carries(0), 0x01020304050607f7L);
        net.bend(0, Long.MIN_VALUE);
        Check.due("the first byte, the bend before is gone", net.carries(0), 0x8102030405060708L);
        net.bend(0, 0x0102030405060708L);
        Check.due("by itself", net.carries(0), 0);
        net.bend(0, 0);
        Check.due("not bent", net.carries(0), 0x0102030405060708L);
        net.factor(0, 0, 0);
        net.bend(0, 3);
        Check.due("its own factors do not bend more", net.carries(0), 3);
    }

    private static void bentFurtherOn() {
        MixingRelays net = Nets.butterfly();
        net.bend(0, 255);
        Check.due("as it is", net.carries(5), 0x01020304050607f7L);
        net.factor(5, 0, 2);
        Check.due("times a factor", net.carries(5), 0x020406080a0c0ef5L);
        net.bend(5, 0xf5);
        Check.due("bent twice", net.carries(5), 0x020406080a0c0e00L);
    }

    private static void bentSaysTheSame() {
        MixingRelays net = Nets.butterfly();
        net.bend(0, -1);
        vector(net, 0, 1, 0);
        vector(net, 4, 1, 1);
    }

    private static void bentWithoutIns() {
        MixingRelays net = Nets.withRelays(2);
        net.line(1, 2);
        net.bend(0, -9);
        Check.due("bent alone", net.carries(0), -9);
        vector(net, 0, 0);
    }

    /** "(not if it is BROKEN)" */
    private static void bentAndBroken() {
        MixingRelays net = Nets.butterfly();
        net.bend(0, 255);
        net.broken(0, 1);
        Check.due("bent and broken", net.carries(0), 0);
        Check.due("further on", net.carries(4), -5);
        Check.due("bent still", net.about(0, 5), 1);
        net.broken(0, 0);
        Check.due("mended, it bends", net.carries(0), 0x01020304050607f7L);
        net.broken(1, 1);
        net.bend(1, 7);
        Check.due("bent when broken", net.carries(1), 0);
        net.broken(1, 0);
        Check.due("mended, it bends", net.carries(1), -5 ^ 7);
    }

    private static void lastOfAll() {
        MixingRelays net = Nets.full();
        net.factor(29, 0, 200);
        vector(net, 29, 200);
        net.factor(29, 0, 1);
        Check.due("carries(29)", net.carries(29), -7);
        Check.due("carries(30)", net.carries(30), 0);
        Check.due("vector(30, 0)", net.vector(30, 0), MixingRelays.NONE);
    }
}
