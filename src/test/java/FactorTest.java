/** Promises 27 to 29: draw, find, leave. */
public final class FactorTest {
    public static void main(String[] args) {
        draws();
        finds();
        doesNotFind();
        leaves();
        leavesNothing();
        Check.finish();
    }

    private static void draws() {
        MixingRelays net = Nets.butterfly();
        net.keep(0, 1);
        net.keep(4, 1);
        Check.due("draw(-7)", net.draw(-7), 8);
        int x = -7;
        int[] kept = {0, 4};
        for (int line = 0; line < 9; line++) {
            for (int i = 0; i < net.about(line, 2); i++) {
                boolean isKept = line == kept[0] || line == kept[1];
                int want = line == 0 ? 1 - i : 1;
                if (!isKept) {
                    x = x * 1103515245 + 12345;
                    want = (x & 0xff0000) / 0x10000;
                }
                Check.due("factor " + i + " of " + line, net.factor(line, i, want), want);
            }
        }
        net.broken(8, 1);
        Check.due("broken lines are drawn", net.draw(0), 8);
        net.keep(0, 0);
        net.keep(4, 0);
        Check.due("all are drawn", net.draw(Integer.MAX_VALUE), 12);
        Check.due("none are drawn", new MixingRelays().draw(1), 0);
    }

    private static void finds() {
        MixingRelays net = Nets.butterfly();
        Check.due("find", net.find(), 1);
        Check.due("left", net.left(), 0);
        MixingRelays again = Nets.butterfly();
        again.draw(1);
        for (int line = 0; line < 9; line++) {
            Check.due("found is drawn", net.vector(line, 0), again.vector(line, 0));
        }
        net.end(5, 0);
        net.end(6, 0);
        Check.due("find without ends", net.find(), MixingRelays.NONE);
        Check.due("changes nothing", net.vector(0, 0), again.vector(0, 0));
        laterSeed();
    }

    /** The 188th number that seed 1 brings, line 27's only one, is 0. */
    private static void laterSeed() {
        MixingRelays net = Nets.withRelays(3);
        for (int line = 0; line < 27; line++) {
            net.line(line < 11 ? 0 : 1, line < 11 ? 1 : 2);
        }
        net.line(0, 3);
        net.end(3, 1);
        Check.due("draw(1)", net.draw(1), 188);
        Check.due("draw(1) is not enough", net.left(), 1);
        Check.due("find a later seed", net.find(), 2);
        Check.due("found", net.left(), 0);
        net.factor(27, 0, 1);
        net.keep(27, 1);
        Check.due("the first seed is tried again", net.find(), 1);
    }

    private static void doesNotFind() {
        MixingRelays net = Nets.butterfly();
        net.broken(4, 1);
        Check.due("find, broken", net.find(), MixingRelays.NONE);
        Check.due("factors as before", net.factor(0, 0, 1), 1);
        Check.due("factors as before", net.factor(0, 1, 0), 0);
        Check.due("factors as before", net.factor(8, 0, 1), 1);
    }

    private static void leaves() {
        MixingRelays net = Nets.butterfly();
        Check.due("the butterfly must mix", net.leave(), 0);
        Check.due("its factor stays", net.factor(4, 1, 1), 1);
        net.end(5, 0);
        Check.due("one end alone: no need", net.leave(), 1);
        Check.due("by the first IN it has a rank of 2", net.about(4, 6), 1);
        Check.due("IN 0", net.factor(4, 0, 1), 1);
        Check.due("IN 1", net.factor(4, 1, 1), 0);
        net.end(6, 0);
        net.end(5, 1);
        net.factor(4, 0, 9);
        Check.due("the other end", net.leave(), 1);
        Check.due("IN 0 would not do", net.factor(4, 0, 0), 0);
        Check.due("IN 1 is 1", net.factor(4, 1, 1), 1);
        Check.due("it passes already", net.leave(), 0);
    }

    private static void leavesNothing() {
        MixingRelays net = Nets.butterfly();
        net.end(5, 0);
        net.keep(4, 1);
        Check.due("kept", net.leave(), 0);
        net.keep(4, 0);
        net.end(6, 0);
        net.factor(4, 0, 200);
        net.factor(0, 1, 3);
        Check.due("without ends all pass", net.leave(), 1);
        Check.due("by IN 0", net.factor(4, 0, 1), 1);
        Check.due("from the SOURCE they stay", net.factor(0, 1, 3), 3);
    }
}
