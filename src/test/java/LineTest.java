/** Promises 17 and 18: what lines say and carry. */
public final class LineTest {
    public static void main(String[] args) {
        butterfly();
        outOfOrder();
        bentAndBroken();
        Check.finish();
    }

    private static void vector(MixingRelays net, int line, int first, int second) {
        Check.due("vector(" + line + ", 0)", net.vector(line, 0), first);
        Check.due("vector(" + line + ", 1)", net.vector(line, 1), second);
    }

    private static void butterfly() {
        MixingRelays net = Nets.butterfly();
        vector(net, 0, 1, 0);
        vector(net, 4, 1, 1);
        net.factor(6, 0, 3);
        vector(net, 6, 3, 3);
        Check.due("carries(4)", net.carries(4), 0x0102030405060708L ^ -5L);
        Check.due("vector(9, 0)", net.vector(9, 0), MixingRelays.NONE);
        Check.due("vector(-1, 0)", net.vector(-1, 0), MixingRelays.NONE);
        Check.due("vector(0, 2)", net.vector(0, 2), MixingRelays.NONE);
        Check.due("vector(0, -1)", net.vector(0, -1), MixingRelays.NONE);
        Check.due("carries(9)", net.carries(9), 0);
        Check.due("carries(-1)", net.carries(-1), 0);
    }

    /** A line may have INS with numbers above its own. */
    private static void outOfOrder() {
        MixingRelays net = Nets.withRelays(3);
        net.piece(0, 0x80402010_08040201L);
        net.line(2, 3);
        net.line(1, 2);
        net.line(0, 1);
        for (int line = 0; line < 3; line++) {
            net.factor(line, 0, 2);
        }
        Check.due("vector(0, 0)", net.vector(0, 0), 8);
        Check.due("carries(2)", net.carries(2), 0x1b804020_10080402L);
        Check.due("carries(0)", net.carries(0), 0x6c361b80_40201008L);
    }

    private static void bentAndBroken() {
        MixingRelays net = Nets.butterfly();
        net.bend(0, 255);
        vector(net, 0, 1, 0);
        Check.due("bent", net.carries(0), 0x01020304050607f7L);
        Check.due("further on", net.carries(5), 0x01020304050607f7L);
        net.broken(0, 1);
        vector(net, 0, 0, 0);
        vector(net, 4, 0, 1);
        Check.due("broken and bent", net.carries(0), 0);
        Check.due("further on", net.carries(4), -5);
        net.broken(0, 0);
        Check.due("mended", net.carries(0), 0x01020304050607f7L);
        net.bend(8, 1);
        net.factor(8, 0, 0);
        Check.due("bent alone", net.carries(8), 1);
    }
}
