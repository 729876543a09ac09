import java.util.function.Supplier;

/**
 * All that can be seen of a net, as a text: two nets with one trace are in one state. Some of it shows
 * only by changing the net, and an object is good for 512 calls, so each part is seen on a net of its own.
 */
final class Trace {
    private final StringBuilder seen = new StringBuilder();
    private final Supplier<MixingRelays> made;

    private Trace(Supplier<MixingRelays> made) {
        this.made = made;
    }

    static String of(Supplier<MixingRelays> made) {
        Trace trace = new Trace(made);
        trace.countsAndLines();
        trace.factors();
        trace.vectorsAndBytes();
        trace.ends();
        trace.pieces();
        return trace.seen.toString();
    }

    private void note(String what, long answer) {
        seen.append(what).append(' ').append(answer).append('\n');
    }

    private void countsAndLines() {
        MixingRelays net = made.get();
        for (int what = 0; what < 7; what++) {
            note("count " + what, net.count(what));
        }
        int lines = net.count(1);
        for (int line = 0; line < lines; line++) {
            for (int what = 0; what < 7; what++) {
                note("about " + line + " " + what, net.about(line, what));
            }
        }
        note("the next relay", net.relay());
        note("the next line", net.line(0, 1));
    }

    /** A call of factor tells what was there. */
    private void factors() {
        MixingRelays net = made.get();
        int lines = net.count(1);
        for (int line = 0; line < lines; line++) {
            int ins = net.about(line, 2);
            for (int i = 0; i < ins; i++) {
                note("factor " + line + " " + i, net.factor(line, i, 0));
            }
        }
    }

    /** A bend of a broken line shows once it is mended. */
    private void vectorsAndBytes() {
        MixingRelays net = made.get();
        int lines = net.count(1);
        int pieces = net.count(2);
        for (int line = 0; line < lines; line++) {
            for (int p = 0; p < pieces; p++) {
                note("vector " + line + " " + p, net.vector(line, p));
            }
            note("carries " + line, net.carries(line));
        }
        for (int line = 0; line < lines; line++) {
            net.broken(line, 0);
        }
        for (int line = 0; line < lines; line++) {
            note("mended carries " + line, net.carries(line));
        }
    }

    private void ends() {
        MixingRelays net = made.get();
        note("rate", net.rate());
        note("left", net.left());
        note("wrong", net.wrong());
        int relays = net.count(0);
        for (int relay = 1; relay < relays; relay++) {
            note("flow " + relay, net.flow(relay));
            note("rank " + relay, net.rank(relay));
            note("end " + relay, net.end(relay, 0));
        }
    }

    /** Line 0, if there is one, must come from the source. */
    private void pieces() {
        MixingRelays net = made.get();
        if (net.count(1) == 0) {
            net.relay();
            net.line(0, 1);
        }
        net.broken(0, 0);
        net.bend(0, 0);
        int pieces = net.count(2);
        for (int p = 0; p < pieces; p++) {
            for (int q = 0; q < pieces; q++) {
                net.factor(0, q, p == q ? 1 : 0);
            }
            note("piece " + p, net.carries(0));
        }
    }
}
