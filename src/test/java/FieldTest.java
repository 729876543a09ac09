/** Promises 12 and 13: the field. */
public final class FieldTest {
    public static void main(String[] args) {
        MixingRelays net = new MixingRelays();
        Check.due("times(87, 131)", net.times(87, 131), 193);
        Check.due("times(128, 2)", net.times(128, 2), 0x1b);
        for (int a = 0; a < 256; a++) {
            for (int b = 0; b < 256; b++) {
                Check.due("times(" + a + ", " + b + ")", net.times(a, b), slowProduct(a, b));
            }
        }
        for (int a = 1; a < 256; a++) {
            Check.due("inverse of " + a, slowProduct(a, net.inverse(a)), 1);
        }
        Check.due("inverse(0)", net.inverse(0), MixingRelays.BAD);
        Check.due("inverse(256)", net.inverse(256), MixingRelays.BAD);
        Check.due("inverse(-1)", net.inverse(-1), MixingRelays.BAD);
        Check.due("times(256, 0)", net.times(256, 0), MixingRelays.BAD);
        Check.due("times(0, 256)", net.times(0, 256), MixingRelays.BAD);
        Check.due("times(-1, 1)", net.times(-1, 1), MixingRelays.BAD);
        Check.due("times(1, -1)", net.times(1, -1), MixingRelays.BAD);
        Check.finish();
    }

    /** Long multiplication of polynomials, then division by the one that is told. */
    static int slowProduct(int a, int b) {
        int long_ = 0;
        for (int i = 0; i < 8; i++) {
            if ((b >> i & 1) == 1) {
                long_ ^= a << i;
            }
        }
        for (int i = 15; i >= 8; i--) {
            if ((long_ >> i & 1) == 1) {
                long_ ^= 0b1_0001_1011 << i - 8;
            }
        }
        return long_;
    }
}
