/** Promises 30 and 31: safe and breaks. */
public final class BreakTest {
    private static final int NONE = MixingRelays.NONE;

    public static void main(String[] args) {
        butterfly();
        noBreaks();
        oneBreak();
        twoBreaks();
        atMostK();
        rankOfNought();
        rankOfAllPieces();
        rankOfEachNumber();
        brokenLinesBreakNoMore();
        fewerLinesThanK();
        noLines();
        noneThenOneThenTwo();
        onesByNumber();
        twosByTheLesser();
        twosByTheGreater();
        lastLines();
        leastEnd();
        setAheadOfEnd();
        eachEnd();
        relaysThatAreNoEnds();
        withoutEnds();
        Check.finish();
    }

    private static void safe(MixingRelays net, int k, int r) {
        first(net, k, r, NONE, NONE, NONE);
    }

    private static void first(MixingRelays net, int k, int r, int... want) {
        Check.due("safe(" + k + ", " + r + ")", net.safe(k, r), want[2] == NONE ? 1 : 0);
        for (int what = 0; what < 3; what++) {
            Check.due("breaks(" + k + ", " + r + ", " + what + ")", net.breaks(k, r, what), want[what]);
        }
    }

    private static MixingRelays ones(int... factors) {
        int[][] rows = new int[factors.length][1];
        for (int line = 0; line < factors.length; line++) {
            rows[line][0] = factors[line];
        }
        return Nets.star(1, rows);
    }

    /** Relays that are ends, and for each row a line from the source to one of them, of factor 1. */
    private static MixingRelays toEnds(int relays, int... to) {
        MixingRelays net = Nets.withRelays(relays);
        for (int relay = 1; relay <= relays; relay++) {
            net.end(relay, 1);
        }
        for (int relay : to) {
            net.factor(net.line(0, relay), 0, 1);
        }
        return net;
    }

    private static void butterfly() {
        MixingRelays net = Nets.butterfly();
        safe(net, 0, 2);
        safe(net, 1, 1);
        first(net, 1, 2, 0, NONE, 5);
        first(net, 2, 1, 0, 1, 5);
        first(net, 2, 2, 0, NONE, 5);
        net.factor(4, 0, 0);
        first(net, 0, 2, NONE, NONE, 6);
        safe(net, 0, 1);
        first(net, 1, 1, 1, NONE, 6);
    }

    /** k of 0: the set of none alone */
    private static void noBreaks() {
        safe(ones(1), 0, 1);
        first(ones(0), 0, 1, NONE, NONE, 1);
    }

    private static void oneBreak() {
        first(ones(1), 1, 1, 0, NONE, 1);
        safe(ones(1, 1), 1, 1);
        first(ones(0, 1), 1, 1, 1, NONE, 1);
    }

    private static void twoBreaks() {
        first(ones(1, 1), 2, 1, 0, 1, 1);
        safe(ones(1, 1, 1), 2, 1);
        first(ones(0, 1, 0, 1, 0), 2, 1, 1, 3, 1);
        safe(ones(0, 1, 0, 1, 5), 2, 1);
    }

    /** "each set of at most k LINES": those of less, too */
    private static void atMostK() {
        MixingRelays net = ones(0, 1);
        first(net, 2, 1, 1, NONE, 1);
        net.broken(1, 1);
        first(net, 1, 1, NONE, NONE, 1);
        first(net, 2, 1, NONE, NONE, 1);
    }

    /** r of 0 */
    private static void rankOfNought() {
        MixingRelays net = toEnds(2, 1);
        for (int k = 0; k <= 2; k++) {
            safe(net, k, 0);
        }
        first(net, 0, 1, NONE, NONE, 2);
    }

    /** r of h */
    private static void rankOfAllPieces() {
        int[][] rows = {{1, 0, 0, 0}, {0, 1, 0, 0}, {0, 0, 1, 0}, {0, 0, 0, 1}, {1, 1, 1, 1}};
        MixingRelays net = Nets.star(4, rows);
        safe(net, 0, 4);
        safe(net, 1, 4);
        first(net, 2, 4, 0, 1, 1);
        safe(net, 2, 3);
        Check.due("r 5", net.safe(0, 5), MixingRelays.BAD);
        MixingRelays one = ones(1);
        Check.due("r 1 of one piece", one.safe(0, 1), 1);
        Check.due("r 2 of one piece", one.safe(0, 2), MixingRelays.BAD);
    }

    /** "each END has a RANK of r or more" */
    private static void rankOfEachNumber() {
        MixingRelays net = Nets.star(3, new int[][] {{1, 0, 0}, {0, 1, 0}, {0, 0, 1}});
        safe(net, 0, 3);
        first(net, 1, 3, 0, NONE, 1);
        safe(net, 1, 2);
        first(net, 2, 2, 0, 1, 1);
        safe(net, 2, 1);
    }

    /** "LINES that are not BROKEN" */
    private static void brokenLinesBreakNoMore() {
        MixingRelays net = ones(1, 2, 3);
        safe(net, 2, 1);
        net.broken(0, 1);
        safe(net, 1, 1);
        first(net, 2, 1, 1, 2, 1);
        net.broken(2, 1);
        first(net, 2, 1, 1, NONE, 1);
        net.broken(1, 1);
        first(net, 0, 1, NONE, NONE, 1);
        first(net, 2, 1, NONE, NONE, 1);
    }

    private static void fewerLinesThanK() {
        first(ones(1), 2, 1, 0, NONE, 1);
        safe(ones(1), 2, 0);
    }

    private static void noLines() {
        MixingRelays net = ones();
        first(net, 0, 1, NONE, NONE, 1);
        first(net, 2, 1, NONE, NONE, 1);
        safe(net, 2, 0);
    }

    /** "Sets: none, then those of one by number, then of two": end 2 falls by line 3 alone, end 1 by 0 and 1. */
    private static void noneThenOneThenTwo() {
        MixingRelays net = toEnds(2, 1, 1, 2, 2);
        first(net, 2, 1, 0, 1, 1);
        net.factor(2, 0, 0);
        first(net, 2, 1, 3, NONE, 2);
        first(net, 1, 1, 3, NONE, 2);
        net.factor(3, 0, 0);
        first(net, 2, 1, NONE, NONE, 2);
    }

    private static void onesByNumber() {
        MixingRelays net = toEnds(3, 3, 2, 1);
        first(net, 1, 1, 0, NONE, 3);
        net.broken(0, 1);
        net.end(3, 0);
        first(net, 1, 1, 1, NONE, 2);
    }

    /** "of two by the lesser": 0 and 3 come ahead of 1 and 2. */
    private static void twosByTheLesser() {
        MixingRelays net = toEnds(2, 2, 1, 1, 2);
        first(net, 2, 1, 0, 3, 2);
        net.end(2, 0);
        first(net, 2, 1, 1, 2, 1);
    }

    /** "then by the greater": either of 1 and 2 falls with 0. */
    private static void twosByTheGreater() {
        MixingRelays net = Nets.star(2, new int[][] {{1, 0}, {0, 1}, {1, 1}});
        first(net, 2, 2, 0, 1, 1);
        MixingRelays apart = toEnds(2, 1, 2, 2, 1);
        apart.line(0, 1);
        first(apart, 2, 1, 0, 3, 1);
    }

    private static void lastLines() {
        int[] factors = new int[30];
        factors[29] = 1;
        first(ones(factors), 1, 1, 29, NONE, 1);
        factors[28] = 1;
        first(ones(factors), 2, 1, 28, 29, 1);
        factors[28] = 0;
        factors[0] = 1;
        first(ones(factors), 2, 1, 0, 29, 1);
    }

    /** "2 the END, the least" */
    private static void leastEnd() {
        MixingRelays net = Nets.withRelays(11);
        net.factor(net.line(0, 1), 0, 1);
        for (int relay = 2; relay < 12; relay++) {
            net.factor(net.line(1, relay), 0, 1);
        }
        net.end(11, 1);
        first(net, 1, 1, 0, NONE, 11);
        net.end(4, 1);
        first(net, 1, 1, 0, NONE, 4);
        net.end(3, 1);
        first(net, 1, 1, 0, NONE, 3);
        net.broken(0, 1);
        first(net, 1, 1, NONE, NONE, 3);
    }

    /** The first set tells the END, though a later one would take a lesser END down. */
    private static void setAheadOfEnd() {
        first(toEnds(2, 2, 1), 1, 1, 0, NONE, 2);
    }

    /** "each END has": one that has not is enough, though all others have */
    private static void eachEnd() {
        MixingRelays net = toEnds(3, 1, 1, 2, 3, 3);
        safe(net, 0, 1);
        first(net, 1, 1, 2, NONE, 2);
        net.end(2, 0);
        safe(net, 1, 1);
        first(net, 2, 1, 0, 1, 1);
    }

    private static void relaysThatAreNoEnds() {
        MixingRelays net = toEnds(2, 2);
        net.end(1, 0);
        safe(net, 0, 1);
        net.end(1, 1);
        first(net, 0, 1, NONE, NONE, 1);
    }

    /** With no END there is none that could have less: so it is read. */
    private static void withoutEnds() {
        MixingRelays net = ones(1);
        net.end(1, 0);
        safe(net, 0, 1);
        safe(net, 2, 1);
    }
}
