/** Promises 14 to 16: flow, cut, rate. */
public final class FlowTest {
    public static void main(String[] args) {
        butterfly();
        detour();
        leastCut();
        several();
        refusals();
        Check.finish();
    }

    private static void cut(MixingRelays net, int relay, int... want) {
        Check.due("flow(" + relay + ")", net.flow(relay), want.length);
        for (int i = 0; i < want.length; i++) {
            Check.due("cut(" + relay + ", " + i + ")", net.cut(relay, i), want[i]);
        }
        Check.due("cut beyond", net.cut(relay, want.length), MixingRelays.NONE);
        Check.due("cut(-1)", net.cut(relay, -1), MixingRelays.NONE);
    }

    private static void butterfly() {
        MixingRelays net = Nets.butterfly();
        cut(net, 5, 0, 1);
        cut(net, 4, 4);
        Check.due("rate", net.rate(), 2);
        net.end(4, 1);
        Check.due("rate with the narrow one", net.rate(), 1);
        net.broken(4, 1);
        cut(net, 4);
        cut(net, 5, 0);
        Check.due("rate, broken", net.rate(), 0);
        net.end(4, 0);
        Check.due("rate, broken", net.rate(), 1);
        net.end(5, 0);
        net.end(6, 0);
        Check.due("rate without ends", net.rate(), 0);
    }

    /** The first way that is found, 0-1-2-3, must give up its line from 1 to 2. */
    private static void detour() {
        MixingRelays net = Nets.withRelays(4);
        net.line(0, 1);
        net.line(1, 2);
        net.line(2, 4);
        net.line(0, 2);
        net.line(1, 3);
        net.line(3, 4);
        cut(net, 4, 0, 3);
    }

    /** Of cuts with as many lines, that with the fewest relays on the source's side. */
    private static void leastCut() {
        MixingRelays net = Nets.withRelays(3);
        net.line(2, 3);
        net.line(1, 2);
        net.line(0, 1);
        cut(net, 3, 2);
        net.line(0, 1);
        cut(net, 3, 1);
        net.line(1, 2);
        cut(net, 3, 0);
        net.broken(2, 1);
        cut(net, 3, 3);
    }

    private static void several() {
        MixingRelays net = Nets.withRelays(1);
        for (int line = 0; line < 30; line++) {
            net.line(0, 1);
        }
        Check.due("30 ways", net.flow(1), 30);
        Check.due("the last of them", net.cut(1, 29), 29);
        net.broken(0, 1);
        Check.due("29 ways", net.flow(1), 29);
        Check.due("the first of them", net.cut(1, 0), 1);
    }

    private static void refusals() {
        MixingRelays net = Nets.withRelays(1);
        Check.due("flow(0)", net.flow(0), MixingRelays.BAD);
        Check.due("flow(2)", net.flow(2), MixingRelays.NONE);
        Check.due("flow(-1)", net.flow(-1), MixingRelays.NONE);
        Check.due("flow(1)", net.flow(1), 0);
        Check.due("cut(0, 0)", net.cut(0, 0), MixingRelays.BAD);
        Check.due("cut(0, 1000)", net.cut(0, 1000), MixingRelays.BAD);
        Check.due("cut(0, -1)", net.cut(0, -1), MixingRelays.NONE);
        Check.due("cut(0, least)", net.cut(0, Integer.MIN_VALUE), MixingRelays.NONE);
        Check.due("cut(2, -1)", net.cut(2, -1), MixingRelays.NONE);
        Check.due("cut(1, -1)", net.cut(1, -1), MixingRelays.NONE);
        Check.due("cut(2, 0)", net.cut(2, 0), MixingRelays.NONE);
        Check.due("cut(1, 0)", net.cut(1, 0), MixingRelays.NONE);
    }
}
