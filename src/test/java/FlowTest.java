/** Promises 14 to 16: flow, cut, rate. */
public final class FlowTest {
    private static final int NONE = MixingRelays.NONE;

    public static void main(String[] args) {
        butterfly();
        noLineLeadsToIt();
        noWayFromTheSource();
        noLineInCommon();
        relaysInCommon();
        givesUpALine();
        givenUpIsFree();
        notAlongBrokenLines();
        factorsDoNotMatter();
        fewestRelays();
        fewestRelaysInBranches();
        byNumbers();
        brokenLinesAreInNoCut();
        greatestFlow();
        rateIsTheLeast();
        rateWithoutEnds();
        rateOfAnEndWithoutLines();
        rateAboveThePieces();
        rateOfAllRelays();
        sourceAndGreatI();
        Check.finish();
    }

    private static void cut(MixingRelays net, int relay, int... want) {
        Check.due("flow(" + relay + ")", net.flow(relay), want.length);
        for (int i = 0; i < want.length; i++) {
            Check.due("cut(" + relay + ", " + i + ")", net.cut(relay, i), want[i]);
        }
        Check.due("cut beyond", net.cut(relay, want.length), NONE);
        Check.due("cut(-1)", net.cut(relay, -1), NONE);
    }

    private static MixingRelays withLines(int relays, int[]... lines) {
        MixingRelays net = Nets.withRelays(relays);
        for (int[] line : lines) {
            net.line(line[0], line[1]);
        }
        return net;
    }

    private static int[] from(int from, int to) {
        return new int[] {from, to};
    }

    private static void butterfly() {
        MixingRelays net = Nets.butterfly();
        cut(net, 5, 0, 1);
        cut(net, 6, 0, 1);
        cut(net, 4, 4);
        cut(net, 1, 0);
        net.broken(4, 1);
        cut(net, 4);
        cut(net, 5, 0);
    }

    private static void noLineLeadsToIt() {
        MixingRelays net = withLines(2, from(0, 1));
        cut(net, 2);
        cut(Nets.withRelays(1), 1);
    }

    private static void noWayFromTheSource() {
        MixingRelays net = withLines(3, from(1, 2), from(1, 2), from(0, 3));
        cut(net, 1);
        cut(net, 2);
        cut(net, 3, 2);
    }

    /** "the most ways from the SOURCE to it .. no two of which have a LINE in common" */
    private static void noLineInCommon() {
        MixingRelays net = withLines(2, from(0, 1), from(0, 1), from(0, 1), from(1, 2));
        cut(net, 2, 3);
        net.line(1, 2);
        cut(net, 2, 3, 4);
        cut(net, 1, 0, 1, 2);
    }

    /** Ways may have a RELAY in common. */
    private static void relaysInCommon() {
        MixingRelays net = withLines(4, from(0, 1), from(0, 2), from(1, 3), from(2, 3), from(3, 4), from(3, 4));
        cut(net, 4, 0, 1);
    }

    /** The first way that is found, 0-1-2-4, must give up its line from 1 to 2. */
    private static void givesUpALine() {
        MixingRelays net = withLines(4, from(0, 1), from(1, 2), from(2, 4), from(0, 2), from(1, 3), from(3, 4));
        cut(net, 4, 0, 3);
    }

    /** The set is {0, 2}: to see 2 in it, a line from 1 to 2 that a way had and gave up must be free again. */
    private static void givenUpIsFree() {
        MixingRelays net = withLines(3, from(1, 3), from(0, 1), from(1, 2), from(0, 2), from(2, 3), from(0, 3), from(0, 2));
        cut(net, 3, 1, 4, 5);
        MixingRelays wide = withLines(3, from(0, 1), from(1, 2), from(0, 2), from(0, 2), from(2, 3), from(0, 3), from(1, 3), from(0, 3));
        cut(wide, 3, 0, 4, 5, 7);
    }

    /** "along LINES that are not BROKEN" */
    private static void notAlongBrokenLines() {
        MixingRelays net = withLines(2, from(0, 1), from(1, 2), from(0, 2));
        cut(net, 2, 0, 2);
        net.broken(1, 1);
        cut(net, 2, 2);
        net.broken(2, 1);
        cut(net, 2);
        net.broken(1, 0);
        cut(net, 2, 0);
    }

    /** Nor do kept and bent lines, nor how many pieces there are. */
    private static void factorsDoNotMatter() {
        MixingRelays net = withLines(1, from(0, 1), from(0, 1));
        cut(net, 1, 0, 1);
        net.factor(0, 0, 1);
        net.keep(0, 1);
        net.bend(1, 1);
        cut(net, 1, 0, 1);
    }

    /** "from which just as many LINES .. lead out as its FLOW, that with the fewest RELAYS" */
    private static void fewestRelays() {
        MixingRelays net = withLines(3, from(2, 3), from(1, 2), from(0, 1));
        cut(net, 3, 2);
        net.line(0, 1);
        cut(net, 3, 1);
        net.line(1, 2);
        cut(net, 3, 0);
        net.broken(2, 1);
        cut(net, 3, 3);
    }

    /** {0, 1} and {0, 1, 3} both have three lines that lead out; {0} has five. */
    private static void fewestRelaysInBranches() {
        MixingRelays net = withLines(4, from(0, 1), from(0, 1), from(0, 1), from(1, 4), from(0, 4), from(3, 4), from(0, 3));
        cut(net, 4, 3, 4, 6);
    }

    /** "LINE i, by numbers, from 0 on", though the relays that they lead from stand otherwise */
    private static void byNumbers() {
        MixingRelays net = withLines(3, from(2, 3), from(0, 3), from(1, 3), from(0, 1), from(0, 1), from(0, 2), from(0, 2));
        cut(net, 3, 0, 1, 2);
    }

    private static void brokenLinesAreInNoCut() {
        MixingRelays net = withLines(1, from(0, 1), from(0, 1), from(0, 1));
        net.broken(1, 1);
        cut(net, 1, 0, 2);
        net.broken(0, 1);
        cut(net, 1, 2);
    }

    private static void greatestFlow() {
        MixingRelays net = Nets.withRelays(1);
        int[] all = new int[30];
        for (int line = 0; line < 30; line++) {
            net.line(0, 1);
            all[line] = line;
        }
        cut(net, 1, all);
        MixingRelays chain = Nets.full();
        cut(chain, 11, 10, 21);
        cut(chain, 1, 0, 11, 22);
        chain.broken(10, 1);
        cut(chain, 11, 21);
    }

    /** "the least FLOW of all ENDS", be it the first, the last or one between */
    private static void rateIsTheLeast() {
        MixingRelays net = withLines(3, from(0, 1), from(0, 2), from(0, 2), from(0, 3), from(0, 3), from(0, 3));
        net.end(3, 1);
        Check.due("the one", net.rate(), 3);
        net.end(2, 1);
        Check.due("the first of two", net.rate(), 2);
        net.line(0, 2);
        net.line(0, 2);
        Check.due("the last of two", net.rate(), 3);
        Check.due("one that is no end has less", net.flow(1), 1);
        net.end(1, 1);
        Check.due("it is one", net.rate(), 1);
        net.end(1, 0);
        net.broken(3, 1);
        Check.due("a broken line", net.rate(), 2);
    }

    /** "(0: there are none)" */
    private static void rateWithoutEnds() {
        MixingRelays net = withLines(1, from(0, 1));
        Check.due("none", net.rate(), 0);
        net.end(1, 1);
        Check.due("one", net.rate(), 1);
        net.end(1, 0);
        Check.due("none again", net.rate(), 0);
    }

    private static void rateOfAnEndWithoutLines() {
        MixingRelays net = withLines(2, from(0, 1));
        net.end(1, 1);
        net.end(2, 1);
        Check.due("rate", net.rate(), 0);
    }

    private static void rateAboveThePieces() {
        MixingRelays net = Nets.withRelays(1);
        net.end(1, 1);
        for (int line = 0; line < 30; line++) {
            net.line(0, 1);
        }
        Check.due("rate, one piece", net.rate(), 30);
    }

    private static void rateOfAllRelays() {
        MixingRelays net = Nets.full();
        for (int relay = 1; relay < 12; relay++) {
            net.end(relay, 1);
        }
        Check.due("rate", net.rate(), 2);
        net.broken(21, 1);
        Check.due("the last relay", net.rate(), 1);
        net.broken(10, 1);
        Check.due("the last relay", net.rate(), 0);
    }

    /** The document leaves open what a great i asked of the SOURCE is; it is read as BAD. */
    private static void sourceAndGreatI() {
        MixingRelays net = Nets.withRelays(1);
        Check.due("cut(0, 0)", net.cut(0, 0), MixingRelays.BAD);
        Check.due("cut(0, 1000)", net.cut(0, 1000), MixingRelays.BAD);
        Check.due("cut(0, -1)", net.cut(0, -1), NONE);
    }
}
