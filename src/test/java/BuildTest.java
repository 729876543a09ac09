/** Promises 1 to 11 and 32: what there is, and what is told about it. */
public final class BuildTest {
    public static void main(String[] args) {
        newObject();
        relays();
        lines();
        pieces();
        ends();
        factors();
        flags();
        bends();
        about();
        counts();
        Check.finish();
    }

    private static void counts(MixingRelays net, int... want) {
        for (int what = 0; what < want.length; what++) {
            Check.due("count(" + what + ")", net.count(what), want[what]);
        }
    }

    private static void newObject() {
        MixingRelays net = new MixingRelays();
        counts(net, 1, 0, 1, 0, 0, 0, 0);
        Check.due("new: find", net.find(), MixingRelays.NONE);
        Check.due("new: rate", net.rate(), 0);
        Check.due("new: piece 1", net.piece(1, 5), MixingRelays.NONE);
        net.relay();
        net.line(0, 1);
        net.factor(0, 0, 1);
        Check.due("new: piece 0 is 0", net.carries(0), 0);
    }

    private static void relays() {
        MixingRelays net = new MixingRelays();
        for (int number = 1; number < 12; number++) {
            Check.due("relay", net.relay(), number);
        }
        Check.due("relay 12", net.relay(), MixingRelays.FULL);
        Check.due("relays", net.count(0), 12);
    }

    private static void lines() {
        MixingRelays net = Nets.withRelays(2);
        Check.due("line(0, 3)", net.line(0, 3), MixingRelays.NONE);
        Check.due("line(-1, 1)", net.line(-1, 1), MixingRelays.NONE);
        Check.due("line(3, 1)", net.line(3, 1), MixingRelays.NONE);
        Check.due("line(0, -1)", net.line(0, -1), MixingRelays.NONE);
        Check.due("line(1, 1)", net.line(1, 1), MixingRelays.BAD);
        Check.due("line(2, 1)", net.line(2, 1), MixingRelays.BAD);
        Check.due("no lines", net.count(1), 0);
        for (int number = 0; number < 30; number++) {
            Check.due("line", net.line(number % 2, number % 2 + 1), number);
        }
        Check.due("line 30", net.line(0, 1), MixingRelays.FULL);
        Check.due("full, BAD ahead", net.line(1, 0), MixingRelays.BAD);
        Check.due("full, NONE ahead", net.line(1, 9), MixingRelays.NONE);
        Check.due("lines", net.count(1), 30);
    }

    private static void pieces() {
        MixingRelays net = Nets.withRelays(1);
        Check.due("pieces(0)", net.pieces(0), MixingRelays.BAD);
        Check.due("pieces(5)", net.pieces(5), MixingRelays.BAD);
        Check.due("pieces(4)", net.pieces(4), 1);
        Check.due("piece(3)", net.piece(3, 77), 0);
        Check.due("piece(4)", net.piece(4, 77), MixingRelays.NONE);
        Check.due("piece(-1)", net.piece(-1, 77), MixingRelays.NONE);
        Check.due("pieces(4) again", net.pieces(4), 4);
        net.piece(0, 9);
        net.line(0, 1);
        net.factor(0, 3, 1);
        Check.due("pieces are 0 again", net.carries(0), 0);
        net.factor(0, 0, 1);
        Check.due("a piece", net.carries(0), 9);
        Check.due("pieces with lines", net.pieces(2), MixingRelays.STATE);
        Check.due("BAD ahead of STATE", net.pieces(7), MixingRelays.BAD);
        Check.due("pieces stay", net.count(2), 4);
        Check.due("bytes stay", net.carries(0), 9);
        Check.due("piece with lines", net.piece(0, -1), 0);
        Check.due("a piece anew", net.carries(0), -1);
    }

    private static void ends() {
        MixingRelays net = Nets.withRelays(2);
        Check.due("end(2, 1)", net.end(2, 1), 0);
        Check.due("end(2, 1)", net.end(2, 1), 1);
        Check.due("end(2, 2)", net.end(2, 2), MixingRelays.BAD);
        Check.due("end(2, -1)", net.end(2, -1), MixingRelays.BAD);
        Check.due("end(0, 1)", net.end(0, 1), MixingRelays.BAD);
        Check.due("end(0, 0)", net.end(0, 0), MixingRelays.BAD);
        Check.due("end(3, 2)", net.end(3, 2), MixingRelays.NONE);
        Check.due("end(-1, 1)", net.end(-1, 1), MixingRelays.NONE);
        Check.due("ends", net.count(3), 1);
        Check.due("end(2, 0)", net.end(2, 0), 1);
        Check.due("ends", net.count(3), 0);
    }

    private static void factors() {
        MixingRelays net = Nets.withRelays(2);
        net.pieces(2);
        net.line(1, 2);
        Check.due("no INS yet", net.factor(0, 0, 1), MixingRelays.NONE);
        net.line(0, 1);
        Check.due("IN 0 has come", net.factor(0, 0, 7), 0);
        net.line(0, 1);
        Check.due("IN 0 stays", net.factor(0, 0, 8), 7);
        Check.due("IN 1 has come", net.factor(0, 1, 9), 0);
        Check.due("IN 2", net.factor(0, 2, 9), MixingRelays.NONE);
        Check.due("IN -1", net.factor(0, -1, 9), MixingRelays.NONE);
        Check.due("from the SOURCE", net.factor(1, 1, 255), 0);
        Check.due("from the SOURCE, IN 2", net.factor(1, 2, 1), MixingRelays.NONE);
        Check.due("f 256", net.factor(1, 1, 256), MixingRelays.BAD);
        Check.due("f -1", net.factor(1, 1, -1), MixingRelays.BAD);
        Check.due("NONE ahead of BAD", net.factor(1, 2, -1), MixingRelays.NONE);
        Check.due("no line", net.factor(3, 0, 1), MixingRelays.NONE);
        Check.due("no line -1", net.factor(-1, 0, 1), MixingRelays.NONE);
        Check.due("stays", net.factor(1, 1, 0), 255);
    }

    private static void flags() {
        MixingRelays net = Nets.withRelays(1);
        net.line(0, 1);
        Check.due("keep", net.keep(0, 1), 0);
        Check.due("keep again", net.keep(0, 1), 1);
        Check.due("keep 2", net.keep(0, 2), MixingRelays.BAD);
        Check.due("keep no line", net.keep(1, 2), MixingRelays.NONE);
        Check.due("keep line -1", net.keep(-1, 1), MixingRelays.NONE);
        Check.due("kept", net.about(0, 3), 1);
        Check.due("not broken", net.about(0, 4), 0);
        Check.due("broken", net.broken(0, 1), 0);
        Check.due("broken 2", net.broken(0, -1), MixingRelays.BAD);
        Check.due("broken no line", net.broken(1, 1), MixingRelays.NONE);
        Check.due("broken line -1", net.broken(-1, 5), MixingRelays.NONE);
        Check.due("is broken", net.about(0, 4), 1);
        Check.due("keep no more", net.keep(0, 0), 1);
        Check.due("not kept", net.about(0, 3), 0);
        Check.due("mended", net.broken(0, 0), 1);
        Check.due("is mended", net.about(0, 4), 0);
    }

    private static void bends() {
        MixingRelays net = Nets.withRelays(1);
        net.line(0, 1);
        Check.due("bend", net.bend(0, Long.MIN_VALUE), 0);
        Check.due("is bent", net.about(0, 5), 1);
        Check.due("bend by 0", net.bend(0, 0), 1);
        Check.due("is not bent", net.about(0, 5), 0);
        Check.due("bend again", net.bend(0, 1), 0);
        Check.due("bend no line", net.bend(1, 1), MixingRelays.NONE);
        Check.due("bend line -1", net.bend(-1, 1), MixingRelays.NONE);
    }

    private static void about() {
        MixingRelays net = Nets.butterfly();
        int[] want = {3, 4, 2, 0, 0, 0, 0};
        for (int what = 0; what < 7; what++) {
            Check.due("about(4, " + what + ")", net.about(4, what), want[what]);
        }
        Check.due("about(4, 7)", net.about(4, 7), MixingRelays.NONE);
        Check.due("about(4, -1)", net.about(4, -1), MixingRelays.NONE);
        Check.due("about(9, 0)", net.about(9, 0), MixingRelays.NONE);
        Check.due("about(-1, 0)", net.about(-1, 0), MixingRelays.NONE);
        Check.due("INS from the SOURCE", net.about(0, 2), 2);
        Check.due("from the SOURCE none is PASSING", net.about(0, 6), 0);
        Check.due("one IN", net.about(5, 6), 1);
        net.factor(4, 1, 0);
        Check.due("one factor left", net.about(4, 6), 1);
        net.factor(4, 0, 0);
        Check.due("no factor left", net.about(4, 6), 1);
    }

    private static void counts() {
        MixingRelays net = Nets.butterfly();
        counts(net, 7, 9, 2, 2, 0, 6, 12);
        net.broken(3, 1);
        net.factor(4, 0, 0);
        counts(net, 7, 9, 2, 2, 1, 7, 12);
        Check.due("count(7)", net.count(7), MixingRelays.NONE);
        Check.due("count(-1)", net.count(-1), MixingRelays.NONE);
    }
}
