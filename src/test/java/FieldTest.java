/** Promises 12 and 13, and "1 THE FIELD". */
public final class FieldTest {
    public static void main(String[] args) {
        lastWithoutReduction();
        firstReduced();
        allProducts();
        allInverses();
        Check.finish();
    }

    private static void times(int a, int b, int want) {
        MixingRelays net = new MixingRelays();
        Check.due("times(" + a + ", " + b + ")", net.times(a, b), want);
        Check.due("times(" + b + ", " + a + ")", net.times(b, a), want);
    }

    /** "a product is that of the polynomials whose coefficients are the bits": no carry, no reduction yet. */
    private static void lastWithoutReduction() {
        times(0, 0, 0);
        times(0, 255, 0);
        times(1, 255, 255);
        times(3, 3, 5);
        times(127, 2, 254);
        times(64, 2, 128);
        times(16, 8, 128);
    }

    /** "modulo x^8 + x^4 + x^3 + x + 1" */
    private static void firstReduced() {
        times(128, 2, 0x1b);
        times(16, 16, 0x1b);
        times(128, 128, 0x9a);
        times(255, 255, 0x13);
        times(87, 131, 193);
        times(83, 202, 1);
    }

    /** A new object for each row, since one is good for 512 calls. */
    private static void allProducts() {
        for (int a = 0; a < 256; a++) {
            MixingRelays net = new MixingRelays();
            for (int b = 0; b < 256; b++) {
                Check.due("times(" + a + ", " + b + ")", net.times(a, b), slowProduct(a, b));
            }
        }
    }

    /** "The number with which a gives 1", for a from 1 to 255 */
    private static void allInverses() {
        MixingRelays net = new MixingRelays();
        for (int a = 1; a < 256; a++) {
            int inverse = net.inverse(a);
            Check.holds("inverse(" + a + ") is a number", inverse >= 1 && inverse <= 255);
            Check.due("inverse(" + a + ") times it", slowProduct(a, inverse), 1);
        }
        Check.due("inverse(1)", net.inverse(1), 1);
        Check.due("inverse(2)", net.inverse(2), 141);
        Check.due("inverse(83)", net.inverse(83), 202);
        Check.due("inverse(255)", net.inverse(255), 28);
    }

    /** Long multiplication of polynomials, then division by the one that is told. */
    static int slowProduct(int a, int b) {
        int whole = 0;
        for (int i = 0; i < 8; i++) {
            if ((b >> i & 1) == 1) {
                whole ^= a << i;
            }
        }
        for (int i = 15; i >= 8; i--) {
            if ((whole >> i & 1) == 1) {
                whole ^= 0b1_0001_1011 << i - 8;
            }
        }
        return whole;
    }
}
