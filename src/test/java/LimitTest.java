/** "An object is used for at most 512 calls after it has been made", and each object for itself. */
public final class LimitTest {
    public static void main(String[] args) {
        lastCall();
        lastOfDearCalls();
        eachObjectForItself();
        Check.finish();
    }

    private static void lastCall() {
        MixingRelays net = new MixingRelays();
        net.relay();
        net.line(0, 1);
        for (int call = 3; call <= 512; call++) {
            Check.due("call " + call, net.factor(0, 0, call % 256), call == 3 ? 0 : (call - 1) % 256);
        }
    }

    /** All pairs of thirty lines are tried, on a net with as many factors as can be. */
    private static void lastOfDearCalls() {
        MixingRelays net = Nets.withRelays(2);
        net.pieces(4);
        for (int line = 0; line < 30; line++) {
            net.line(line / 15, line / 15 + 1);
        }
        net.end(2, 1);
        net.draw(1);
        int made = 2 + 1 + 30 + 1 + 1;
        for (int call = made + 1; call <= 512; call++) {
            Check.due("call " + call, net.safe(2, 4), 1);
        }
    }

    private static void eachObjectForItself() {
        String untouched = Trace.of(MixingRelays::new);
        MixingRelays first = new MixingRelays();
        MixingRelays one = Nets.lively();
        MixingRelays other = Nets.lively();
        one.factor(0, 0, 1);
        other.factor(0, 0, 2);
        other.broken(0, 1);
        other.end(6, 0);
        Check.due("its own factor", one.factor(0, 0, 3), 1);
        Check.due("its own lines", one.about(0, 4), 0);
        Check.due("its own ends", one.count(3), 2);
        Check.due("one made ahead of both", first.count(0), 1);
        Check.holds("a new one is as ever", Trace.of(MixingRelays::new).equals(untouched));
    }
}
