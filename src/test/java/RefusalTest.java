import java.util.function.Supplier;
import java.util.function.ToLongFunction;

/**
 * "REFUSALS, of several the first one told: NONE there is no such RELAY, LINE, PIECE, IN, i, what; BAD a
 * number is not as told; STATE as told; FULL. They change nothing." For each call the first inputs that
 * are refused, beside the last ones that are not.
 */
public final class RefusalTest {
    private static final int NONE = MixingRelays.NONE, BAD = MixingRelays.BAD;
    private static final int STATE = MixingRelays.STATE, FULL = MixingRelays.FULL;
    private static final int LEAST = Integer.MIN_VALUE, MOST = Integer.MAX_VALUE;
    private static final int[] NO_RELAYS = {-1, 7, 8, 12, LEAST, MOST};
    private static final int[] NO_LINES = {-1, 10, 11, 30, LEAST, MOST};
    private static final int[] NO_PIECES = {-1, 3, 4, LEAST, MOST};
    private static final int[] NO_FLAGS = {-1, 2, LEAST, MOST};
    private static final int[] NO_NUMBERS = {-1, 256, LEAST, MOST};
    private static final int[] BELOW_0 = {-1, -2, LEAST};

    private final Supplier<MixingRelays> made;
    private final String untouched;

    private RefusalTest(Supplier<MixingRelays> made) {
        this.made = made;
        this.untouched = Trace.of(made);
    }

    public static void main(String[] args) {
        RefusalTest lively = new RefusalTest(Nets::lively);
        RefusalTest full = new RefusalTest(Nets::full);
        RefusalTest bare = new RefusalTest(Nets::bare);
        RefusalTest fresh = new RefusalTest(MixingRelays::new);
        relay(lively, full);
        line(lively, full);
        pieces(lively, bare);
        piece(lively, bare, fresh);
        end(lively, full, fresh);
        factor(lively, full);
        keep(lively, full);
        broken(lively, full);
        bend(lively, full);
        about(lively, full);
        times(lively);
        inverse(lively);
        flow(lively, fresh);
        cut(lively, fresh);
        vector(lively, fresh);
        carries(lively, fresh);
        rank(lively, fresh);
        freshLines(lively, fresh);
        solves(lively);
        key(lively);
        gets(lively);
        lack(lively);
        find(lively, bare, fresh);
        safe(lively, bare);
        breaks(lively, bare);
        count(lively, fresh);
        askingChangesNothing(lively);
        Check.finish();
    }

    private void refused(int want, String call, ToLongFunction<MixingRelays> asked) {
        allowed(want, call, asked);
        unchanged(call, asked);
    }

    private void unchanged(String call, ToLongFunction<MixingRelays> asked) {
        String after = Trace.of(() -> {
            MixingRelays net = made.get();
            asked.applyAsLong(net);
            return net;
        });
        Check.holds(call + " changes nothing", after.equals(untouched));
    }

    private void allowed(long want, String call, ToLongFunction<MixingRelays> asked) {
        Check.due(call, asked.applyAsLong(made.get()), want);
    }

    /** "A RELAY more: its number. FULL." */
    private static void relay(RefusalTest lively, RefusalTest full) {
        lively.allowed(7, "relay", net -> net.relay());
        full.refused(FULL, "relay, 12 there", net -> net.relay());
    }

    /** "NONE; BAD: to is not above from; FULL." */
    private static void line(RefusalTest lively, RefusalTest full) {
        lively.allowed(10, "line(0, 6)", net -> net.line(0, 6));
        lively.allowed(10, "line(5, 6)", net -> net.line(5, 6));
        lively.allowed(10, "line(0, 1)", net -> net.line(0, 1));
        for (int no : NO_RELAYS) {
            lively.refused(NONE, "line(0, " + no + ")", net -> net.line(0, no));
            lively.refused(NONE, "line(" + no + ", 6)", net -> net.line(no, 6));
            lively.refused(NONE, "line, NONE ahead of BAD", net -> net.line(no, no));
            lively.refused(NONE, "line, NONE ahead of BAD", net -> net.line(no, 0));
            lively.refused(NONE, "line, NONE ahead of BAD", net -> net.line(6, no));
        }
        lively.refused(BAD, "line(0, 0)", net -> net.line(0, 0));
        lively.refused(BAD, "line(5, 5)", net -> net.line(5, 5));
        lively.refused(BAD, "line(6, 5)", net -> net.line(6, 5));
        lively.refused(BAD, "line(6, 0)", net -> net.line(6, 0));
        full.refused(FULL, "line, 30 there", net -> net.line(0, 11));
        full.refused(FULL, "line, 30 there", net -> net.line(10, 11));
        full.refused(BAD, "line, BAD ahead of FULL", net -> net.line(11, 11));
        full.refused(BAD, "line, BAD ahead of FULL", net -> net.line(11, 0));
        full.refused(NONE, "line, NONE ahead of FULL", net -> net.line(0, 12));
        full.refused(NONE, "line, NONE ahead of FULL", net -> net.line(-1, 11));
        full.refused(NONE, "line, NONE ahead of BAD and FULL", net -> net.line(12, 12));
    }

    /** "BAD; STATE: there are LINES." */
    private static void pieces(RefusalTest lively, RefusalTest bare) {
        bare.allowed(4, "pieces(1)", net -> net.pieces(1));
        bare.allowed(4, "pieces(4)", net -> net.pieces(4));
        for (int h = 1; h <= 4; h++) {
            int told = h;
            lively.refused(STATE, "pieces(" + h + "), lines there", net -> net.pieces(told));
        }
        for (int h : new int[] {0, 5, -1, LEAST, MOST}) {
            bare.refused(BAD, "pieces(" + h + ")", net -> net.pieces(h));
            lively.refused(BAD, "pieces, BAD ahead of STATE", net -> net.pieces(h));
        }
        RefusalTest oneLine = new RefusalTest(() -> {
            MixingRelays net = Nets.bare();
            net.line(0, 1);
            return net;
        });
        oneLine.refused(STATE, "pieces(2), one line there", net -> net.pieces(2));
    }

    /** "A PIECE becomes these bytes: 0. NONE." */
    private static void piece(RefusalTest lively, RefusalTest bare, RefusalTest fresh) {
        lively.allowed(0, "piece(0)", net -> net.piece(0, 1));
        lively.allowed(0, "piece(2)", net -> net.piece(2, 1));
        for (int no : NO_PIECES) {
            lively.refused(NONE, "piece(" + no + ")", net -> net.piece(no, 1));
        }
        bare.allowed(0, "piece(3) of 4", net -> net.piece(3, 1));
        bare.refused(NONE, "piece(4) of 4", net -> net.piece(4, 1));
        fresh.allowed(0, "piece(0) of 1", net -> net.piece(0, 1));
        fresh.refused(NONE, "piece(1) of 1", net -> net.piece(1, 1));
    }

    /** "NONE; BAD: is not 0, 1; the SOURCE." */
    private static void end(RefusalTest lively, RefusalTest full, RefusalTest fresh) {
        lively.allowed(0, "end(1, 1)", net -> net.end(1, 1));
        lively.allowed(1, "end(6, 0)", net -> net.end(6, 0));
        full.allowed(1, "end(11, 0)", net -> net.end(11, 0));
        full.refused(NONE, "end(12, 1)", net -> net.end(12, 1));
        fresh.refused(NONE, "end(1, 1)", net -> net.end(1, 1));
        fresh.refused(BAD, "end(0, 1)", net -> net.end(0, 1));
        for (int no : NO_RELAYS) {
            lively.refused(NONE, "end(" + no + ", 1)", net -> net.end(no, 1));
            lively.refused(NONE, "end(" + no + ", 0)", net -> net.end(no, 0));
            lively.refused(NONE, "end, NONE ahead of BAD", net -> net.end(no, 2));
        }
        for (int is : NO_FLAGS) {
            lively.refused(BAD, "end(1, " + is + ")", net -> net.end(1, is));
            lively.refused(BAD, "end(6, " + is + ")", net -> net.end(6, is));
            lively.refused(BAD, "end(0, " + is + ")", net -> net.end(0, is));
        }
        lively.refused(BAD, "end(0, 0)", net -> net.end(0, 0));
        lively.refused(BAD, "end(0, 1)", net -> net.end(0, 1));
    }

    /** "NONE; BAD: not 0 .. 255." */
    private static void factor(RefusalTest lively, RefusalTest full) {
        lively.allowed(1, "factor to 0 and back", net -> net.factor(9, 2, 0) >= 0 && net.factor(9, 2, 255) == 0 ? 1 : 0);
        lively.allowed(255, "factor to 255 and back", net -> net.factor(4, 1, 255) >= 0 ? net.factor(4, 1, 0) : NONE);
        full.allowed(1, "factor of line 29", net -> net.factor(29, 0, 1) >= 0 ? net.factor(29, 0, 0) : NONE);
        full.refused(NONE, "factor of line 30", net -> net.factor(30, 0, 1));
        for (int no : NO_LINES) {
            lively.refused(NONE, "factor(" + no + ", 0, 1)", net -> net.factor(no, 0, 1));
            lively.refused(NONE, "factor, NONE ahead of BAD", net -> net.factor(no, 0, 256));
        }
        for (int no : NO_PIECES) {
            lively.refused(NONE, "factor from the SOURCE, IN " + no, net -> net.factor(0, no, 1));
            lively.refused(NONE, "factor, NONE ahead of BAD", net -> net.factor(0, no, -1));
        }
        for (int no : new int[] {-1, 2, 3, LEAST, MOST}) {
            lively.refused(NONE, "factor of one with two INS, IN " + no, net -> net.factor(4, no, 1));
        }
        for (int no : new int[] {-1, 1, 2, LEAST, MOST}) {
            lively.refused(NONE, "factor of one with one IN, IN " + no, net -> net.factor(5, no, 1));
        }
        for (int f : NO_NUMBERS) {
            lively.refused(BAD, "factor(0, 0, " + f + ")", net -> net.factor(0, 0, f));
            lively.refused(BAD, "factor(4, 1, " + f + ")", net -> net.factor(4, 1, f));
        }
    }

    /** "A LINE is KEPT (is 1), or not: what it was. NONE; BAD." */
    private static void keep(RefusalTest lively, RefusalTest full) {
        lively.allowed(0, "keep(0, 1)", net -> net.keep(0, 1));
        lively.allowed(1, "keep(1, 0)", net -> net.keep(1, 0));
        lively.allowed(0, "keep(9, 0)", net -> net.keep(9, 0));
        full.allowed(1, "keep(29, 1)", net -> net.keep(29, 1) == 0 ? net.keep(29, 1) : NONE);
        full.refused(NONE, "keep(30, 1)", net -> net.keep(30, 1));
        for (int no : NO_LINES) {
            lively.refused(NONE, "keep(" + no + ", 1)", net -> net.keep(no, 1));
            lively.refused(NONE, "keep, NONE ahead of BAD", net -> net.keep(no, 2));
        }
        for (int is : NO_FLAGS) {
            lively.refused(BAD, "keep(0, " + is + ")", net -> net.keep(0, is));
            lively.refused(BAD, "keep(1, " + is + ")", net -> net.keep(1, is));
        }
    }

    /** "A LINE is BROKEN (is 1), or not: what it was. NONE; BAD." */
    private static void broken(RefusalTest lively, RefusalTest full) {
        lively.allowed(0, "broken(0, 1)", net -> net.broken(0, 1));
        lively.allowed(1, "broken(7, 0)", net -> net.broken(7, 0));
        lively.allowed(0, "broken(9, 0)", net -> net.broken(9, 0));
        full.allowed(1, "broken(29, 1)", net -> net.broken(29, 1) == 0 ? net.broken(29, 1) : NONE);
        full.refused(NONE, "broken(30, 1)", net -> net.broken(30, 1));
        for (int no : NO_LINES) {
            lively.refused(NONE, "broken(" + no + ", 1)", net -> net.broken(no, 1));
            lively.refused(NONE, "broken, NONE ahead of BAD", net -> net.broken(no, 2));
        }
        for (int is : NO_FLAGS) {
            lively.refused(BAD, "broken(0, " + is + ")", net -> net.broken(0, is));
            lively.refused(BAD, "broken(7, " + is + ")", net -> net.broken(7, is));
        }
    }

    /** "1 if it was BENT, else 0. NONE." */
    private static void bend(RefusalTest lively, RefusalTest full) {
        lively.allowed(0, "bend(0)", net -> net.bend(0, 1));
        lively.allowed(0, "bend(9)", net -> net.bend(9, 1));
        full.allowed(1, "bend(29)", net -> net.bend(29, 1) == 0 ? net.bend(29, 1) : NONE);
        full.refused(NONE, "bend(30)", net -> net.bend(30, 1));
        for (int no : NO_LINES) {
            lively.refused(NONE, "bend(" + no + ", 1)", net -> net.bend(no, 1));
            lively.refused(NONE, "bend(" + no + ", 0)", net -> net.bend(no, 0));
        }
    }

    /** "Of a LINE what 0 from .. 6 PASSING (1, 0). NONE." */
    private static void about(RefusalTest lively, RefusalTest full) {
        lively.allowed(0, "about(9, 0)", net -> net.about(9, 0));
        lively.allowed(0, "about(9, 6)", net -> net.about(9, 6));
        full.allowed(8, "about(29, 1)", net -> net.about(29, 1));
        full.refused(NONE, "about(30, 1)", net -> net.about(30, 1));
        for (int no : NO_LINES) {
            lively.refused(NONE, "about(" + no + ", 0)", net -> net.about(no, 0));
            lively.refused(NONE, "about(" + no + ", 6)", net -> net.about(no, 6));
            lively.refused(NONE, "about(" + no + ", 7)", net -> net.about(no, 7));
        }
        for (int what : new int[] {-1, 7, LEAST, MOST}) {
            lively.refused(NONE, "about(4, " + what + ")", net -> net.about(4, what));
        }
    }

    /** "The product of two numbers of THE FIELD. BAD: not 0 .. 255." */
    private static void times(RefusalTest lively) {
        lively.allowed(0, "times(0, 255)", net -> net.times(0, 255));
        lively.allowed(0, "times(255, 0)", net -> net.times(255, 0));
        lively.allowed(0x13, "times(255, 255)", net -> net.times(255, 255));
        for (int no : NO_NUMBERS) {
            lively.refused(BAD, "times(" + no + ", 1)", net -> net.times(no, 1));
            lively.refused(BAD, "times(1, " + no + ")", net -> net.times(1, no));
            lively.refused(BAD, "times(0, " + no + ")", net -> net.times(0, no));
            lively.refused(BAD, "times(" + no + ", 0)", net -> net.times(no, 0));
            lively.refused(BAD, "times(" + no + ", " + no + ")", net -> net.times(no, no));
        }
    }

    /** "The number with which a gives 1. BAD: not 1 .. 255." */
    private static void inverse(RefusalTest lively) {
        lively.allowed(1, "inverse(1)", net -> net.inverse(1));
        lively.allowed(0x1c, "inverse(255)", net -> net.inverse(255));
        lively.refused(BAD, "inverse(0)", net -> net.inverse(0));
        for (int no : NO_NUMBERS) {
            lively.refused(BAD, "inverse(" + no + ")", net -> net.inverse(no));
        }
    }

    /** "FLOW of a RELAY. NONE; BAD: the SOURCE." */
    private static void flow(RefusalTest lively, RefusalTest fresh) {
        lively.allowed(1, "flow(1)", net -> net.flow(1));
        lively.allowed(2, "flow(6)", net -> net.flow(6));
        lively.refused(BAD, "flow(0)", net -> net.flow(0));
        fresh.refused(BAD, "flow(0)", net -> net.flow(0));
        fresh.refused(NONE, "flow(1)", net -> net.flow(1));
        for (int no : NO_RELAYS) {
            lively.refused(NONE, "flow(" + no + ")", net -> net.flow(no));
        }
    }

    /** "LINE i, by numbers, from 0 on, of its CUT. NONE; BAD." */
    private static void cut(RefusalTest lively, RefusalTest fresh) {
        lively.allowed(4, "cut(6, 0)", net -> net.cut(6, 0));
        lively.allowed(9, "cut(6, 1)", net -> net.cut(6, 1));
        for (int i : new int[] {2, 3, 30, MOST}) {
            lively.refused(NONE, "cut(6, " + i + ")", net -> net.cut(6, i));
        }
        for (int i : BELOW_0) {
            lively.refused(NONE, "cut(6, " + i + ")", net -> net.cut(6, i));
            lively.refused(NONE, "cut, NONE ahead of BAD", net -> net.cut(0, i));
            fresh.refused(NONE, "cut, NONE ahead of BAD", net -> net.cut(0, i));
        }
        for (int no : NO_RELAYS) {
            lively.refused(NONE, "cut(" + no + ", 0)", net -> net.cut(no, 0));
            lively.refused(NONE, "cut(" + no + ", -1)", net -> net.cut(no, -1));
        }
        lively.refused(BAD, "cut(0, 0)", net -> net.cut(0, 0));
        fresh.refused(BAD, "cut(0, 0)", net -> net.cut(0, 0));
    }

    /** "The VECTOR's number for a PIECE. NONE." */
    private static void vector(RefusalTest lively, RefusalTest fresh) {
        lively.allowed(1, "vector(9, 2)", net -> net.factor(9, 2, 1) >= 0 ? net.vector(9, 2) : NONE);
        fresh.refused(NONE, "vector(0, 0)", net -> net.vector(0, 0));
        for (int no : NO_LINES) {
            lively.refused(NONE, "vector(" + no + ", 0)", net -> net.vector(no, 0));
            lively.refused(NONE, "vector(" + no + ", 3)", net -> net.vector(no, 3));
        }
        for (int no : NO_PIECES) {
            lively.refused(NONE, "vector(9, " + no + ")", net -> net.vector(9, no));
        }
    }

    /** "What a LINE carries. 0: there is none such." */
    private static void carries(RefusalTest lively, RefusalTest fresh) {
        lively.allowed(1, "carries(9)", net -> net.carries(9) != 0 ? 1 : 0);
        fresh.refused(0, "carries(0)", net -> net.carries(0));
        for (int no : NO_LINES) {
            lively.refused(0, "carries(" + no + ")", net -> net.carries(no));
        }
    }

    /** "The RANK of a RELAY. NONE; BAD: the SOURCE." */
    private static void rank(RefusalTest lively, RefusalTest fresh) {
        lively.allowed(1, "rank(1)", net -> net.rank(1));
        lively.allowed(2, "rank(6)", net -> net.rank(6));
        lively.refused(BAD, "rank(0)", net -> net.rank(0));
        fresh.refused(BAD, "rank(0)", net -> net.rank(0));
        fresh.refused(NONE, "rank(1)", net -> net.rank(1));
        for (int no : NO_RELAYS) {
            lively.refused(NONE, "rank(" + no + ")", net -> net.rank(no));
        }
    }

    /** "NEW LINE i, by numbers, from 0 on. NONE; BAD." */
    private static void freshLines(RefusalTest lively, RefusalTest fresh) {
        lively.allowed(8, "fresh(6, 0)", net -> net.fresh(6, 0));
        lively.allowed(9, "fresh(6, 1)", net -> net.fresh(6, 1));
        for (int i : new int[] {2, 3, 4, 30, MOST}) {
            lively.refused(NONE, "fresh(6, " + i + ")", net -> net.fresh(6, i));
        }
        for (int i : BELOW_0) {
            lively.refused(NONE, "fresh(6, " + i + ")", net -> net.fresh(6, i));
            lively.refused(NONE, "fresh, NONE ahead of BAD", net -> net.fresh(0, i));
            fresh.refused(NONE, "fresh, NONE ahead of BAD", net -> net.fresh(0, i));
        }
        for (int no : NO_RELAYS) {
            lively.refused(NONE, "fresh(" + no + ", 0)", net -> net.fresh(no, 0));
            lively.refused(NONE, "fresh(" + no + ", -1)", net -> net.fresh(no, -1));
        }
        lively.refused(BAD, "fresh(0, 0)", net -> net.fresh(0, 0));
        fresh.refused(BAD, "fresh(0, 0)", net -> net.fresh(0, 0));
    }

    /** "Whether a RELAY WORKS OUT a PIECE: 1, 0. NONE; BAD." */
    private static void solves(RefusalTest lively) {
        lively.allowed(0, "solves(1, 0)", net -> net.solves(1, 0));
        lively.allowed(0, "solves(6, 2)", net -> net.solves(6, 2));
        lively.refused(BAD, "solves(0, 0)", net -> net.solves(0, 0));
        lively.refused(BAD, "solves(0, 2)", net -> net.solves(0, 2));
        for (int no : NO_RELAYS) {
            lively.refused(NONE, "solves(" + no + ", 0)", net -> net.solves(no, 0));
            lively.refused(NONE, "solves(" + no + ", 3)", net -> net.solves(no, 3));
        }
        for (int no : NO_PIECES) {
            lively.refused(NONE, "solves(6, " + no + ")", net -> net.solves(6, no));
            lively.refused(NONE, "solves, NONE ahead of BAD", net -> net.solves(0, no));
        }
    }

    /** Line 9, of factors 0, 0, 2, lets relay 6 work out piece 2 and no other. */
    private static MixingRelays solving() {
        MixingRelays net = Nets.lively();
        net.factor(9, 0, 0);
        net.factor(9, 1, 0);
        net.factor(9, 2, 2);
        return net;
    }

    /** "The KEY's number for NEW LINE i. NONE: it is not WORKED OUT, too; BAD." */
    private static void key(RefusalTest lively) {
        RefusalTest solving = new RefusalTest(RefusalTest::solving);
        solving.allowed(0, "key(6, 2, 0)", net -> net.key(6, 2, 0));
        solving.allowed(141, "key(6, 2, 1)", net -> net.key(6, 2, 1));
        for (int i : new int[] {2, 3, 4, 30, MOST}) {
            solving.refused(NONE, "key(6, 2, " + i + ")", net -> net.key(6, 2, i));
        }
        solving.refused(NONE, "key, not worked out", net -> net.key(6, 0, 0));
        solving.refused(NONE, "key, not worked out", net -> net.key(6, 1, 1));
        solving.refused(NONE, "key, not worked out", net -> net.key(6, 1, 2));
        for (int i : BELOW_0) {
            solving.refused(NONE, "key(6, 2, " + i + ")", net -> net.key(6, 2, i));
            solving.refused(NONE, "key, NONE ahead of BAD", net -> net.key(0, 2, i));
        }
        for (int no : NO_RELAYS) {
            solving.refused(NONE, "key(" + no + ", 2, 0)", net -> net.key(no, 2, 0));
        }
        for (int no : NO_PIECES) {
            solving.refused(NONE, "key(6, " + no + ", 0)", net -> net.key(6, no, 0));
            solving.refused(NONE, "key, NONE ahead of BAD", net -> net.key(0, no, 0));
        }
        lively.refused(BAD, "key(0, 0, 0)", net -> net.key(0, 0, 0));
        lively.refused(BAD, "key(0, 2, 0)", net -> net.key(0, 2, 0));
    }

    /** "What it GETS for a PIECE; 0: it is not WORKED OUT, or there is none such." */
    private static void gets(RefusalTest lively) {
        RefusalTest solving = new RefusalTest(RefusalTest::solving);
        solving.allowed(0x8102030405060708L * 3, "gets(6, 2)", net -> net.gets(6, 2));
        solving.refused(0, "gets, not worked out", net -> net.gets(6, 0));
        solving.refused(0, "gets of the SOURCE", net -> net.gets(0, 2));
        for (int no : NO_RELAYS) {
            solving.refused(0, "gets(" + no + ", 2)", net -> net.gets(no, 2));
        }
        for (int no : NO_PIECES) {
            solving.refused(0, "gets(6, " + no + ")", net -> net.gets(6, no));
        }
    }

    /** "The LACK's number for PIECE q. NONE: p is WORKED OUT, too; BAD." */
    private static void lack(RefusalTest lively) {
        RefusalTest solving = new RefusalTest(RefusalTest::solving);
        solving.allowed(1, "lack(6, 0, 0)", net -> net.lack(6, 0, 0));
        solving.allowed(0, "lack(6, 0, 2)", net -> net.lack(6, 0, 2));
        for (int q = 0; q < 3; q++) {
            int at = q;
            solving.refused(NONE, "lack, worked out", net -> net.lack(6, 2, at));
        }
        for (int no : NO_RELAYS) {
            solving.refused(NONE, "lack(" + no + ", 0, 0)", net -> net.lack(no, 0, 0));
        }
        for (int no : NO_PIECES) {
            solving.refused(NONE, "lack(6, " + no + ", 0)", net -> net.lack(6, no, 0));
            solving.refused(NONE, "lack(6, 0, " + no + ")", net -> net.lack(6, 0, no));
            solving.refused(NONE, "lack, NONE ahead of BAD", net -> net.lack(0, no, 0));
            solving.refused(NONE, "lack, NONE ahead of BAD", net -> net.lack(0, 0, no));
        }
        lively.refused(BAD, "lack(0, 0, 0)", net -> net.lack(0, 0, 0));
        lively.refused(BAD, "lack(0, 2, 2)", net -> net.lack(0, 2, 2));
    }

    /** "It is FOUND: the seed. NONE: none did, or there are no ENDS." */
    private static void find(RefusalTest lively, RefusalTest bare, RefusalTest fresh) {
        lively.refused(NONE, "find, two lines for three pieces", net -> net.find());
        bare.refused(NONE, "find, no lines", net -> net.find());
        fresh.refused(NONE, "find, new", net -> net.find());
        RefusalTest endless = new RefusalTest(() -> {
            MixingRelays net = Nets.lively();
            net.end(5, 0);
            net.end(6, 0);
            return net;
        });
        endless.refused(NONE, "find, no ends", net -> net.find());
    }

    /** "Whether it is SAFE: 1, 0. BAD: k not 0 .. 2, r not 0 .. h." */
    private static void safe(RefusalTest lively, RefusalTest bare) {
        lively.allowed(1, "safe(0, 0)", net -> net.safe(0, 0));
        lively.allowed(1, "safe(2, 0)", net -> net.safe(2, 0));
        lively.allowed(0, "safe(2, 3)", net -> net.safe(2, 3));
        bare.allowed(0, "safe(0, 4) of 4", net -> net.safe(0, 4));
        bare.refused(BAD, "safe(0, 5) of 4", net -> net.safe(0, 5));
        for (int k : new int[] {-1, 3, LEAST, MOST}) {
            lively.refused(BAD, "safe(" + k + ", 0)", net -> net.safe(k, 0));
            lively.refused(BAD, "safe(" + k + ", 3)", net -> net.safe(k, 3));
            lively.refused(BAD, "safe(" + k + ", 4)", net -> net.safe(k, 4));
        }
        for (int r : new int[] {-1, 4, 5, LEAST, MOST}) {
            lively.refused(BAD, "safe(0, " + r + ")", net -> net.safe(0, r));
            lively.refused(BAD, "safe(2, " + r + ")", net -> net.safe(2, r));
        }
    }

    /** "what 0 the lesser LINE, 1 the greater one .., 2 the END .. NONE: it is SAFE, too; BAD." */
    private static void breaks(RefusalTest lively, RefusalTest bare) {
        lively.allowed(5, "breaks(0, 3, 2)", net -> net.breaks(0, 3, 2));
        bare.allowed(2, "breaks(2, 4, 2) of 4", net -> net.breaks(2, 4, 2));
        bare.refused(BAD, "breaks(2, 5, 2) of 4", net -> net.breaks(2, 5, 2));
        for (int what = 0; what < 3; what++) {
            int told = what;
            lively.refused(NONE, "breaks, safe", net -> net.breaks(0, 2, told));
            lively.refused(NONE, "breaks, r 0", net -> net.breaks(2, 0, told));
            for (int k : new int[] {-1, 3, LEAST, MOST}) {
                lively.refused(BAD, "breaks(" + k + ", 0, " + what + ")", net -> net.breaks(k, 0, told));
            }
            for (int r : new int[] {-1, 4, LEAST, MOST}) {
                lively.refused(BAD, "breaks(0, " + r + ", " + what + ")", net -> net.breaks(0, r, told));
            }
        }
        for (int what : new int[] {-1, 3, LEAST, MOST}) {
            lively.refused(NONE, "breaks(0, 3, " + what + ")", net -> net.breaks(0, 3, what));
            lively.refused(NONE, "breaks, NONE ahead of BAD", net -> net.breaks(3, 3, what));
            lively.refused(NONE, "breaks, NONE ahead of BAD", net -> net.breaks(0, 4, what));
        }
    }

    /** "What 0 RELAYS .. 6 FACTORS of all. NONE." */
    private static void count(RefusalTest lively, RefusalTest fresh) {
        lively.allowed(7, "count(0)", net -> net.count(0));
        lively.allowed(17, "count(6)", net -> net.count(6));
        fresh.allowed(0, "count(6)", net -> net.count(6));
        for (int what : new int[] {-1, 7, LEAST, MOST}) {
            lively.refused(NONE, "count(" + what + ")", net -> net.count(what));
            fresh.refused(NONE, "count(" + what + ")", net -> net.count(what));
        }
    }

    /** Calls that ask leave the net as it is, those that try breaks above all. */
    private static void askingChangesNothing(RefusalTest lively) {
        lively.unchanged("safe(2, 2)", net -> net.safe(2, 2));
        lively.unchanged("breaks(2, 2, 0)", net -> net.breaks(2, 2, 0));
        lively.unchanged("rate", net -> net.rate());
        lively.unchanged("left", net -> net.left());
        lively.unchanged("wrong", net -> net.wrong());
        lively.unchanged("flow(5)", net -> net.flow(5));
        lively.unchanged("cut(5, 0)", net -> net.cut(5, 0));
        lively.unchanged("vector(6, 0)", net -> net.vector(6, 0));
        lively.unchanged("carries(6)", net -> net.carries(6));
        lively.unchanged("rank(5)", net -> net.rank(5));
        lively.unchanged("fresh(5, 1)", net -> net.fresh(5, 1));
        lively.unchanged("lack(5, 0, 2)", net -> net.lack(5, 0, 2));
    }
}
