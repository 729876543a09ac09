/** Promises 1 to 11 and 32: what there is, and what is told about it. */
public final class BuildTest {
    private static final int NONE = MixingRelays.NONE;

    public static void main(String[] args) {
        newObject();
        relaysFromOneOn();
        linesFromNoughtOn();
        severalBetweenTwo();
        piecesTellWhatItHad();
        piecesAreAllNought();
        fewerPiecesThenMore();
        pieceTakesAllBytes();
        everyRelayButTheSourceAnEnd();
        endTellsWhatItWas();
        insFromTheSource();
        insByNumbers();
        noInsAtFirst();
        factorNoughtAtFirst();
        lastFactorComes();
        lastFactorComesToThoseAlone();
        mostIns();
        keepTellsWhatItWas();
        brokenTellsWhatItWas();
        bendTellsWhatItWas();
        bentByNoughtIsNotBent();
        aboutEach();
        passingFromTheSourceNever();
        passingAtMostOne();
        passingWithoutIns();
        passingIsNotAskedOfVectors();
        countEach();
        Check.finish();
    }

    private static void counts(MixingRelays net, int... want) {
        for (int what = 0; what < want.length; what++) {
            Check.due("count(" + what + ")", net.count(what), want[what]);
        }
    }

    /** "The SOURCE alone, with one PIECE, 0; no LINES." */
    private static void newObject() {
        MixingRelays net = new MixingRelays();
        counts(net, 1, 0, 1, 0, 0, 0, 0);
        Check.due("new: rate", net.rate(), 0);
        Check.due("new: left", net.left(), 0);
        Check.due("new: wrong", net.wrong(), 0);
        Check.due("new: find", net.find(), NONE);
        Check.due("new: draw", net.draw(1), 0);
        Check.due("new: leave", net.leave(), 0);
        Check.due("new: piece 1", net.piece(1, 5), NONE);
        Check.due("new: relay", net.relay(), 1);
        Check.due("new: line", net.line(0, 1), 0);
        Check.due("new: no factor", net.factor(0, 0, 1), 0);
        Check.due("new: piece 0 is 0", net.carries(0), 0);
    }

    /** "RELAYS are numbered from 0 on, 12 at most; 0 is the SOURCE." */
    private static void relaysFromOneOn() {
        MixingRelays net = new MixingRelays();
        for (int number = 1; number < 12; number++) {
            Check.due("no relay " + number + " yet", net.rank(number), NONE);
            Check.due("relay", net.relay(), number);
            Check.due("relay " + number + " is there", net.rank(number), 0);
        }
        Check.due("relay 12", net.relay(), MixingRelays.FULL);
        Check.due("relay 12 again", net.relay(), MixingRelays.FULL);
        Check.due("no relay 12", net.rank(12), NONE);
        Check.due("relays", net.count(0), 12);
        Check.due("a line to the last", net.line(0, 11), 0);
        Check.due("a line to the last", net.line(10, 11), 1);
        Check.due("no line to one beyond", net.line(0, 12), NONE);
    }

    /** "LINES are numbered from 0 on, 30 at most" */
    private static void linesFromNoughtOn() {
        MixingRelays net = Nets.withRelays(2);
        for (int number = 0; number < 30; number++) {
            Check.due("no line " + number + " yet", net.about(number, 0), NONE);
            Check.due("line", net.line(number % 2, number % 2 + 1), number);
            Check.due("line " + number + " is there", net.about(number, 0), number % 2);
        }
        Check.due("line 30", net.line(0, 1), MixingRelays.FULL);
        Check.due("line 30 again", net.line(1, 2), MixingRelays.FULL);
        Check.due("no line 30", net.about(30, 0), NONE);
        Check.due("lines", net.count(1), 30);
        Check.due("relays are not full", net.relay(), 3);
    }

    /** "each from a RELAY to one with a greater number (there may be several between two)" */
    private static void severalBetweenTwo() {
        MixingRelays net = Nets.withRelays(11);
        for (int number = 0; number < 3; number++) {
            Check.due("0 to 11", net.line(0, 11), number);
        }
        Check.due("1 to 2", net.line(1, 2), 3);
        Check.due("to 1 from 2", net.line(2, 1), MixingRelays.BAD);
        Check.due("from 1 to 1", net.line(1, 1), MixingRelays.BAD);
        Check.due("from 11 to 11", net.line(11, 11), MixingRelays.BAD);
        Check.due("lines", net.count(1), 4);
    }

    /** "The SOURCE has h PIECES ..: what it had." */
    private static void piecesTellWhatItHad() {
        MixingRelays net = new MixingRelays();
        Check.due("pieces(4)", net.pieces(4), 1);
        Check.due("pieces(3)", net.pieces(3), 4);
        Check.due("pieces(5)", net.pieces(5), MixingRelays.BAD);
        Check.due("pieces(0)", net.pieces(0), MixingRelays.BAD);
        Check.due("pieces(1)", net.pieces(1), 3);
        Check.due("pieces(2)", net.pieces(2), 1);
        Check.due("count(2)", net.count(2), 2);
    }

    private static long carriedAlone(MixingRelays net, int line, int p) {
        for (int q = 0; q < net.count(2); q++) {
            net.factor(line, q, p == q ? 1 : 0);
        }
        return net.carries(line);
    }

    /** "The SOURCE has h PIECES, all 0", as many as before, too */
    private static void piecesAreAllNought() {
        MixingRelays net = Nets.withRelays(1);
        net.pieces(4);
        for (int p = 0; p < 4; p++) {
            net.piece(p, p + 5);
        }
        Check.due("pieces(4) again", net.pieces(4), 4);
        net.piece(2, 9);
        net.line(0, 1);
        Check.due("piece 0", carriedAlone(net, 0, 0), 0);
        Check.due("piece 1", carriedAlone(net, 0, 1), 0);
        Check.due("piece 2", carriedAlone(net, 0, 2), 9);
        Check.due("piece 3", carriedAlone(net, 0, 3), 0);
    }

    private static void fewerPiecesThenMore() {
        MixingRelays net = Nets.withRelays(1);
        net.pieces(4);
        net.piece(3, 8);
        net.piece(0, 8);
        net.pieces(1);
        Check.due("piece 1 is no more", net.piece(1, 8), NONE);
        net.pieces(4);
        net.line(0, 1);
        Check.due("piece 3", carriedAlone(net, 0, 3), 0);
        Check.due("piece 0", carriedAlone(net, 0, 0), 0);
    }

    /** "A PIECE becomes these bytes: 0.", lines there or not */
    private static void pieceTakesAllBytes() {
        MixingRelays net = Nets.withRelays(1);
        net.pieces(4);
        long[] all = {Long.MIN_VALUE, Long.MAX_VALUE, -1, 0x0102030405060708L};
        for (int p = 0; p < 4; p++) {
            Check.due("piece(" + p + ")", net.piece(p, all[p]), 0);
        }
        net.line(0, 1);
        for (int p = 0; p < 4; p++) {
            Check.due("piece " + p, carriedAlone(net, 0, p), all[p]);
        }
        Check.due("anew", net.piece(3, -9), 0);
        Check.due("anew", net.carries(0), -9);
        Check.due("to 0", net.piece(3, 0), 0);
        Check.due("to 0", net.carries(0), 0);
    }

    /** "Some RELAYS, not the SOURCE, are ENDS." */
    private static void everyRelayButTheSourceAnEnd() {
        MixingRelays net = Nets.withRelays(11);
        for (int relay = 1; relay < 12; relay++) {
            Check.due("end(" + relay + ", 1)", net.end(relay, 1), 0);
            Check.due("ends", net.count(3), relay);
        }
        Check.due("end(0, 1)", net.end(0, 1), MixingRelays.BAD);
        Check.due("ends", net.count(3), 11);
    }

    /** "A RELAY is an END (is 1), or none: what it was." */
    private static void endTellsWhatItWas() {
        MixingRelays net = Nets.withRelays(2);
        Check.due("none, as it is", net.end(2, 0), 0);
        Check.due("an end", net.end(2, 1), 0);
        Check.due("an end, as it is", net.end(2, 1), 1);
        Check.due("the other is none", net.end(1, 0), 0);
        Check.due("ends", net.count(3), 1);
        Check.due("none again", net.end(2, 0), 1);
        Check.due("ends", net.count(3), 0);
    }

    /** "The INS of a LINE: of one from the SOURCE the PIECES, in order" */
    private static void insFromTheSource() {
        for (int h = 1; h <= 4; h++) {
            MixingRelays net = Nets.withRelays(1);
            net.pieces(h);
            net.line(0, 1);
            Check.due("INS", net.about(0, 2), h);
            Check.due("the last IN", net.factor(0, h - 1, 7), 0);
            Check.due("its vector", net.vector(0, h - 1), 7);
            Check.due("no IN beyond", net.factor(0, h, 7), NONE);
        }
    }

    /** "of others the LINES that lead to its RELAY, by numbers", be they told ahead of it or not, broken or not */
    private static void insByNumbers() {
        MixingRelays net = Nets.withRelays(3);
        net.pieces(3);
        net.line(0, 2);
        net.line(2, 3);
        net.line(1, 2);
        net.line(0, 1);
        net.line(0, 2);
        net.broken(4, 1);
        Check.due("INS", net.about(1, 2), 3);
        net.broken(4, 0);
        net.factor(0, 0, 1);
        net.factor(3, 1, 1);
        net.factor(2, 0, 1);
        net.factor(4, 2, 1);
        net.factor(1, 0, 10);
        net.factor(1, 1, 20);
        net.factor(1, 2, 30);
        Check.due("by line 0", net.vector(1, 0), 10);
        Check.due("by line 2", net.vector(1, 1), 20);
        Check.due("by line 4", net.vector(1, 2), 30);
    }

    private static void noInsAtFirst() {
        MixingRelays net = Nets.withRelays(2);
        net.line(1, 2);
        Check.due("no INS", net.about(0, 2), 0);
        Check.due("IN 0", net.factor(0, 0, 1), NONE);
        Check.due("no factors", net.count(6), 0);
        Check.due("vector", net.vector(0, 0), 0);
        Check.due("carries", net.carries(0), 0);
    }

    /** "It has a FACTOR for each of its INS, 0 at first" and "what it was" */
    private static void factorNoughtAtFirst() {
        MixingRelays net = Nets.withRelays(2);
        net.pieces(2);
        net.line(0, 1);
        net.line(0, 1);
        net.line(1, 2);
        for (int line = 0; line < 3; line++) {
            for (int i = 0; i < 2; i++) {
                Check.due("at first", net.factor(line, i, 255), 0);
                Check.due("255", net.factor(line, i, line + i), 255);
                Check.due("back", net.factor(line, i, line + i), line + i);
            }
        }
    }

    /** "a LINE that comes adds a last FACTOR, 0, to those that it leads to" */
    private static void lastFactorComes() {
        MixingRelays net = Nets.withRelays(2);
        net.line(1, 2);
        net.line(0, 1);
        Check.due("IN 0 has come", net.factor(0, 0, 7), 0);
        Check.due("no IN 1 yet", net.factor(0, 1, 7), NONE);
        net.line(0, 1);
        Check.due("IN 0 stays", net.factor(0, 0, 8), 7);
        Check.due("IN 1 has come", net.factor(0, 1, 9), 0);
        Check.due("no IN 2", net.factor(0, 2, 9), NONE);
        Check.due("draw", net.draw(5), 4);
        int first = net.factor(0, 0, 0);
        net.factor(0, 0, first);
        net.line(0, 1);
        Check.due("drawn factors stay", net.factor(0, 0, 0), first);
        Check.due("IN 2 is 0", net.factor(0, 2, 0), 0);
    }

    /** The lines from other relays, and those that lead to it, have as many as before. */
    private static void lastFactorComesToThoseAlone() {
        MixingRelays net = Nets.withRelays(4);
        net.line(0, 1);
        net.line(1, 2);
        net.line(2, 3);
        net.line(2, 4);
        net.line(3, 4);
        Check.due("factors", net.count(6), 5);
        net.line(0, 2);
        Check.due("factors: one each for two, and its own", net.count(6), 8);
        int[] ins = {1, 1, 2, 2, 1, 1};
        for (int line = 0; line < 6; line++) {
            Check.due("INS of " + line, net.about(line, 2), ins[line]);
        }
        Check.due("to an end of all lines", net.line(0, 4), 6);
        Check.due("its own alone", net.count(6), 9);
    }

    private static void mostIns() {
        MixingRelays net = Nets.withRelays(2);
        for (int line = 0; line < 29; line++) {
            net.line(0, 1);
        }
        net.line(1, 2);
        Check.due("INS", net.about(29, 2), 29);
        Check.due("the last IN", net.factor(29, 28, 255), 0);
        Check.due("the last IN", net.factor(29, 28, 2), 255);
        Check.due("no IN beyond", net.factor(29, 29, 1), NONE);
        Check.due("no IN beyond", net.factor(29, 30, 1), NONE);
        Check.due("factors", net.count(6), 58);
        net.factor(28, 0, 3);
        Check.due("by the last IN", net.vector(29, 0), 6);
    }

    /** "A LINE is KEPT (is 1), or not: what it was." */
    private static void keepTellsWhatItWas() {
        MixingRelays net = Nets.full();
        for (int line : new int[] {0, 29}) {
            Check.due("not kept, as it is", net.keep(line, 0), 0);
            Check.due("kept", net.keep(line, 1), 0);
            Check.due("kept, as it is", net.keep(line, 1), 1);
            Check.due("it is", net.about(line, 3), 1);
            Check.due("not broken by it", net.about(line, 4), 0);
            Check.due("no other is", net.about(1, 3), 0);
            Check.due("not kept", net.keep(line, 0), 1);
            Check.due("it is not", net.about(line, 3), 0);
        }
    }

    /** "A LINE is BROKEN (is 1), or not: what it was." */
    private static void brokenTellsWhatItWas() {
        MixingRelays net = Nets.full();
        for (int line : new int[] {0, 29}) {
            Check.due("not broken, as it is", net.broken(line, 0), 0);
            Check.due("broken", net.broken(line, 1), 0);
            Check.due("broken, as it is", net.broken(line, 1), 1);
            Check.due("it is", net.about(line, 4), 1);
            Check.due("not kept by it", net.about(line, 3), 0);
            Check.due("no other is", net.count(4), 1);
            Check.due("not broken", net.broken(line, 0), 1);
            Check.due("it is not", net.about(line, 4), 0);
        }
    }

    /** "A LINE is BENT by these bytes ..: 1 if it was BENT, else 0." */
    private static void bendTellsWhatItWas() {
        MixingRelays net = Nets.full();
        for (int line : new int[] {0, 29}) {
            Check.due("bent by the first byte", net.bend(line, Long.MIN_VALUE), 0);
            Check.due("it is", net.about(line, 5), 1);
            Check.due("bent by the last one", net.bend(line, 1), 1);
            Check.due("bent by none", net.bend(line, 0), 1);
            Check.due("no other is", net.about(1, 5), 0);
        }
    }

    /** "(0: it is not)" */
    private static void bentByNoughtIsNotBent() {
        MixingRelays net = Nets.full();
        Check.due("by 0", net.bend(0, 0), 0);
        Check.due("it is not", net.about(0, 5), 0);
        net.bend(0, 1L << 40);
        Check.due("by 0", net.bend(0, 0), 1);
        Check.due("it is not", net.about(0, 5), 0);
        Check.due("by 0", net.bend(0, 0), 0);
    }

    /** "Of a LINE what 0 from, 1 to, 2 how many INS, 3 KEPT, 4 BROKEN, 5 BENT, 6 PASSING (1, 0)." */
    private static void aboutEach() {
        MixingRelays net = Nets.lively();
        int[][] want = {
            {0, 1, 3, 0, 0, 0, 0}, {0, 2, 3, 1, 0, 0, 0}, {2, 3, 1, 0, 0, 1, 1}, {3, 4, 2, 1, 0, 0, 0},
            {2, 6, 1, 0, 1, 1, 1}};
        int[] lines = {0, 1, 3, 4, 7};
        for (int at = 0; at < lines.length; at++) {
            for (int what = 0; what < 7; what++) {
                Check.due("about(" + lines[at] + ", " + what + ")", net.about(lines[at], what), want[at][what]);
            }
        }
    }

    /** "PASSING is a LINE not from the SOURCE" */
    private static void passingFromTheSourceNever() {
        MixingRelays net = Nets.withRelays(1);
        net.pieces(2);
        net.line(0, 1);
        Check.due("no factor", net.about(0, 6), 0);
        net.factor(0, 0, 1);
        Check.due("one factor", net.about(0, 6), 0);
        Check.due("count(5)", net.count(5), 0);
    }

    /** "of which at most one FACTOR is not 0" */
    private static void passingAtMostOne() {
        MixingRelays net = Nets.withRelays(2);
        net.line(0, 1);
        net.line(0, 1);
        net.line(0, 1);
        net.line(1, 2);
        Check.due("none", net.about(3, 6), 1);
        net.factor(3, 2, 255);
        Check.due("one, the last", net.about(3, 6), 1);
        net.factor(3, 0, 1);
        Check.due("two, the first and the last", net.about(3, 6), 0);
        Check.due("count(5)", net.count(5), 0);
        net.factor(3, 1, 1);
        Check.due("three", net.about(3, 6), 0);
        net.factor(3, 2, 0);
        net.factor(3, 1, 0);
        Check.due("one, the first", net.about(3, 6), 1);
        Check.due("count(5)", net.count(5), 1);
    }

    private static void passingWithoutIns() {
        MixingRelays net = Nets.withRelays(2);
        net.line(1, 2);
        Check.due("no INS", net.about(0, 6), 1);
        Check.due("count(5)", net.count(5), 1);
    }

    /** Factors tell, though what comes by them be 0 or the line broken. */
    private static void passingIsNotAskedOfVectors() {
        MixingRelays net = Nets.withRelays(2);
        net.line(0, 1);
        net.line(0, 1);
        net.line(1, 2);
        net.factor(2, 0, 1);
        net.factor(2, 1, 1);
        net.broken(2, 1);
        Check.due("two factors", net.about(2, 6), 0);
        net.factor(2, 1, 0);
        Check.due("one factor, broken", net.about(2, 6), 1);
        Check.due("count(5)", net.count(5), 1);
    }

    /** "What 0 RELAYS, 1 LINES, 2 PIECES, 3 ENDS, 4 BROKEN LINES, 5 PASSING ones, 6 FACTORS of all." */
    private static void countEach() {
        MixingRelays net = Nets.butterfly();
        counts(net, 7, 9, 2, 2, 0, 6, 12);
        net.broken(3, 1);
        net.factor(4, 0, 0);
        counts(net, 7, 9, 2, 2, 1, 7, 12);
        counts(Nets.full(), 12, 30, 1, 1, 0, 0, 48);
        MixingRelays all = Nets.full();
        for (int line = 0; line < 30; line++) {
            all.broken(line, 1);
        }
        Check.due("all broken", all.count(4), 30);
    }
}
