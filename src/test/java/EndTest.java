/** Promises 19 to 26: what ends work out. */
public final class EndTest {
    private static final int NONE = MixingRelays.NONE;
    private static final int[][] FOUR = {{7, 1, 9, 2}, {200, 31, 4, 90}, {1, 1, 1, 1}, {13, 0, 255, 8}};

    public static void main(String[] args) {
        noLineLeadsToIt();
        leastRank();
        greatestRank();
        rankOfBrokenLines();
        newLinesByNumbers();
        newLineAtTheEnd();
        newLinesWithoutBrokenOnes();
        everyRelayHasThem();
        worksOutAll();
        worksOutOneOfThree();
        worksOutByASum();
        keysByNewLines();
        keysLeastAndGreatest();
        getsWhatLinesCarry();
        getsByNewLinesAlone();
        getsNought();
        lackWithoutLines();
        lackLeastAndGreatest();
        lackLeastFirst();
        lackOfOneMissing();
        lackOfAllLines();
        wrongCountsEnds();
        wrongOfWhatIsWorkedOut();
        wrongOfAllEnds();
        leftCountsEnds();
        leftOfAllEnds();
        sourceAndGreatI();
        Check.finish();
    }

    private static void fresh(MixingRelays net, int relay, int... want) {
        Check.due("rank(" + relay + ")", net.rank(relay), want.length);
        for (int i = 0; i < want.length; i++) {
            Check.due("fresh(" + relay + ", " + i + ")", net.fresh(relay, i), want[i]);
        }
        Check.due("fresh beyond", net.fresh(relay, want.length), NONE);
        Check.due("fresh(-1)", net.fresh(relay, -1), NONE);
    }

    private static void key(MixingRelays net, int p, int... want) {
        Check.due("solves(1, " + p + ")", net.solves(1, p), 1);
        for (int i = 0; i < want.length; i++) {
            Check.due("key(1, " + p + ", " + i + ")", net.key(1, p, i), want[i]);
        }
        Check.due("key beyond", net.key(1, p, want.length), NONE);
        Check.due("key(-1)", net.key(1, p, -1), NONE);
        Check.due("no lack", net.lack(1, p, p), NONE);
    }

    private static void lack(MixingRelays net, int p, int... want) {
        Check.due("solves(1, " + p + ")", net.solves(1, p), 0);
        for (int q = 0; q < want.length; q++) {
            Check.due("lack(1, " + p + ", " + q + ")", net.lack(1, p, q), want[q]);
        }
        Check.due("lack beyond", net.lack(1, p, want.length), NONE);
        Check.due("lack(-1)", net.lack(1, p, -1), NONE);
        Check.due("no key", net.key(1, p, 0), NONE);
        Check.due("gets nothing", net.gets(1, p), 0);
    }

    private static void noLineLeadsToIt() {
        MixingRelays net = Nets.withRelays(2);
        net.pieces(4);
        net.line(0, 2);
        net.line(1, 2);
        fresh(net, 1);
        lack(net, 0, 1, 0, 0, 0);
        lack(net, 3, 0, 0, 0, 1);
    }

    /** Vectors of 0s are no NEW LINES. */
    private static void leastRank() {
        fresh(Nets.star(2, new int[][] {{0, 0}, {0, 0}}), 1);
        fresh(Nets.star(2, new int[][] {{0, 0}, {0, 1}}), 1, 1);
    }

    private static void greatestRank() {
        int[][] rows = new int[30][4];
        for (int line = 0; line < 30; line++) {
            rows[line][line % 4] = line + 1;
        }
        fresh(Nets.star(4, rows), 1, 0, 1, 2, 3);
        fresh(Nets.star(4, new int[][] {FOUR[0], FOUR[1], FOUR[2]}), 1, 0, 1, 2);
        fresh(Nets.star(1, new int[][] {{1}, {2}, {3}}), 1, 0);
    }

    private static void rankOfBrokenLines() {
        MixingRelays net = Nets.star(2, new int[][] {{1, 0}, {0, 1}});
        net.broken(0, 1);
        fresh(net, 1, 1);
        net.broken(1, 1);
        fresh(net, 1);
        net.broken(0, 0);
        fresh(net, 1, 0);
    }

    /** "one of these, by numbers, whose VECTOR is no sum of numbers times those of such LINES ahead of it" */
    private static void newLinesByNumbers() {
        MixingRelays net = Nets.star(3, new int[][] {{0, 0, 0}, {2, 4, 0}, {3, 6, 0}, {1, 0, 0}, {0, 1, 0}, {5, 5, 5}, {1, 2, 3}});
        fresh(net, 1, 1, 3, 5);
        fresh(Nets.star(3, new int[][] {{0, 0, 1}, {0, 1, 1}, {0, 1, 0}, {1, 1, 1}}), 1, 0, 1, 3);
    }

    private static void newLineAtTheEnd() {
        int[][] rows = new int[30][2];
        rows[28][1] = 1;
        rows[29][0] = 255;
        fresh(Nets.star(2, rows), 1, 28, 29);
    }

    private static void newLinesWithoutBrokenOnes() {
        MixingRelays net = Nets.star(3, new int[][] {{2, 4, 0}, {3, 6, 0}, {1, 0, 0}, {5, 5, 5}, {1, 2, 3}});
        fresh(net, 1, 0, 2, 3);
        net.broken(0, 1);
        fresh(net, 1, 1, 2, 3);
        net.broken(3, 1);
        fresh(net, 1, 1, 2, 4);
        net.broken(4, 1);
        fresh(net, 1, 1, 2);
    }

    /** ENDS or not */
    private static void everyRelayHasThem() {
        MixingRelays net = Nets.butterfly();
        fresh(net, 3, 2, 3);
        fresh(net, 4, 4);
        Check.due("solves(3, 1)", net.solves(3, 1), 1);
        Check.due("gets(3, 1)", net.gets(3, 1), -5);
        Check.due("solves(4, 0)", net.solves(4, 0), 0);
        Check.due("lack(4, 0, 1)", net.lack(4, 0, 1), 1);
        net.end(5, 0);
        fresh(net, 5, 5, 6);
        Check.due("gets(5, 1)", net.gets(5, 1), -5);
    }

    private static void worksOutAll() {
        MixingRelays net = Nets.star(4, FOUR);
        for (int p = 0; p < 4; p++) {
            net.piece(p, 0x1122334455667788L * (p + 3));
        }
        for (int p = 0; p < 4; p++) {
            Check.due("solves", net.solves(1, p), 1);
            Check.due("gets", net.gets(1, p), 0x1122334455667788L * (p + 3));
            Check.due("no lack", net.lack(1, p, 0), NONE);
            Check.due("key 4", net.key(1, p, 4), NONE);
            for (int q = 0; q < 4; q++) {
                int sum = 0;
                for (int i = 0; i < 4; i++) {
                    sum ^= FieldTest.slowProduct(net.key(1, p, i), FOUR[i][q]);
                }
                Check.due("key for " + p + " at " + q, sum, p == q ? 1 : 0);
            }
        }
    }

    /** Rank 2, but of the three pieces just the middle one is worked out. */
    private static void worksOutOneOfThree() {
        MixingRelays net = Nets.star(3, new int[][] {{1, 0, 1}, {0, 2, 0}});
        net.piece(0, 0x77);
        net.piece(1, 0x55);
        key(net, 1, 0, 141);
        Check.due("gets 1", net.gets(1, 1), 0x55);
        lack(net, 0, 1, 0, 1);
        lack(net, 2, 1, 0, 1);
    }

    /** "some sum of numbers times VECTORS of NEW LINES is 1 at p, else 0" */
    private static void worksOutByASum() {
        MixingRelays net = Nets.star(4, new int[][] {{1, 1, 0, 0}, {0, 1, 1, 0}, {0, 0, 1, 0}});
        key(net, 0, 1, 1, 1);
        key(net, 1, 0, 1, 1);
        key(net, 2, 0, 0, 1);
        lack(net, 3, 0, 0, 0, 1);
    }

    /** NEW LINE i, not LINE i that leads to it */
    private static void keysByNewLines() {
        MixingRelays net = Nets.star(2, new int[][] {{0, 0}, {1, 0}, {3, 0}, {0, 4}});
        key(net, 0, 1, 0);
        key(net, 1, 0, 203);
        net.broken(1, 1);
        key(net, 0, 246, 0);
    }

    private static void keysLeastAndGreatest() {
        key(Nets.star(1, new int[][] {{28}}), 0, 255);
        key(Nets.star(1, new int[][] {{255}}), 0, 28);
        key(Nets.star(1, new int[][] {{1}, {1}}), 0, 1);
        key(Nets.star(2, new int[][] {{1, 0}, {0, 1}}), 0, 1, 0);
    }

    /** "by them it GETS the sum of them times what these LINES carry" */
    private static void getsWhatLinesCarry() {
        MixingRelays net = Nets.star(1, new int[][] {{2}});
        net.piece(0, 0x10);
        net.bend(0, 2);
        Check.due("bent by 2, halved", net.gets(1, 0), 0x11);
        net.bend(0, 1L << 63);
        Check.due("the first byte", net.gets(1, 0), 1L << 62 | 0x10);
        net.bend(0, 0x20);
        Check.due("nothing left", net.gets(1, 0), 0);
        net.bend(0, 0);
        Check.due("not bent", net.gets(1, 0), 0x10);
    }

    private static void getsByNewLinesAlone() {
        MixingRelays net = Nets.star(2, new int[][] {{1, 0}, {3, 0}, {0, 1}, {1, 1}});
        net.piece(0, 5);
        net.piece(1, 6);
        net.bend(1, -1);
        net.bend(3, -1);
        Check.due("no new lines bent", net.gets(1, 0), 5);
        Check.due("no new lines bent", net.gets(1, 1), 6);
        Check.due("wrong", net.wrong(), 0);
        net.bend(0, 1);
        Check.due("a new line bent", net.gets(1, 0), 4);
        Check.due("its key for this one is 0", net.gets(1, 1), 6);
        Check.due("wrong", net.wrong(), 1);
    }

    /** "0: it is not WORKED OUT" */
    private static void getsNought() {
        MixingRelays net = Nets.star(2, new int[][] {{1, 1}});
        net.piece(0, 5);
        net.piece(1, 6);
        Check.due("not worked out", net.gets(1, 0), 0);
        net.factor(0, 1, 0);
        Check.due("worked out", net.gets(1, 0), 5);
        Check.due("not worked out", net.gets(1, 1), 0);
        net.broken(0, 1);
        Check.due("broken", net.gets(1, 0), 0);
    }

    private static void lackWithoutLines() {
        MixingRelays net = Nets.star(3, new int[0][]);
        lack(net, 0, 1, 0, 0);
        lack(net, 1, 0, 1, 0);
        lack(net, 2, 0, 0, 1);
        lack(Nets.star(1, new int[0][]), 0, 1);
        lack(Nets.star(1, new int[][] {{0}}), 0, 1);
    }

    private static void lackLeastAndGreatest() {
        MixingRelays net = Nets.star(2, new int[][] {{1, 255}});
        lack(net, 0, 1, 28);
        lack(net, 1, 255, 1);
        lack(Nets.star(2, new int[][] {{0, 1}}), 0, 1, 0);
        lack(Nets.star(2, new int[][] {{1, 0}}), 1, 0, 1);
    }

    /** "of these that with the least first number, then the least second one, and so on" */
    private static void lackLeastFirst() {
        MixingRelays equal = Nets.star(3, new int[][] {{1, 1, 1}});
        lack(equal, 0, 1, 0, 1);
        lack(equal, 1, 0, 1, 1);
        lack(equal, 2, 0, 1, 1);
        MixingRelays wide = Nets.star(4, new int[][] {{1, 2, 0, 0}, {0, 0, 1, 1}});
        lack(wide, 0, 1, 141, 0, 0);
        lack(wide, 1, 2, 1, 0, 0);
        lack(wide, 2, 0, 0, 1, 1);
        lack(wide, 3, 0, 0, 1, 1);
        MixingRelays apart = Nets.star(4, new int[][] {{1, 1, 0, 1}});
        lack(apart, 0, 1, 0, 0, 1);
        lack(apart, 2, 0, 0, 1, 0);
        lack(apart, 3, 0, 1, 0, 1);
    }

    /** RANK 3 of 4: there is but one such row. */
    private static void lackOfOneMissing() {
        MixingRelays net = Nets.star(4, new int[][] {{1, 0, 0, 5}, {0, 1, 0, 6}, {0, 0, 1, 7}});
        lack(net, 3, 5, 6, 7, 1);
        lack(net, 0, 1, 247, 165, 82);
        lack(net, 1, 140, 1, 122, 123);
    }

    /** "each of its LINES' VECTORS", those of 0s and those that are not new among them */
    private static void lackOfAllLines() {
        MixingRelays net = Nets.star(2, new int[][] {{0, 0}, {2, 1}, {4, 2}});
        lack(net, 0, 1, 2);
        lack(net, 1, 141, 1);
        net.broken(1, 1);
        lack(net, 1, 141, 1);
        net.broken(2, 1);
        lack(net, 1, 0, 1);
    }

    /** "How many ENDS GET some PIECE .. other than it is", each once */
    private static void wrongCountsEnds() {
        MixingRelays net = Nets.butterfly();
        Check.due("none", net.wrong(), 0);
        net.bend(5, 0x0f00);
        Check.due("one, by both pieces", net.wrong(), 1);
        Check.due("gets(5, 0)", net.gets(5, 0), 0x0102030405060808L);
        Check.due("gets(6, 0)", net.gets(6, 0), 0x0102030405060708L);
        net.end(5, 0);
        Check.due("it is no end", net.wrong(), 0);
        net.end(5, 1);
        net.bend(4, 1);
        Check.due("two", net.wrong(), 2);
        net.end(5, 0);
        net.end(6, 0);
        Check.due("no ends", net.wrong(), 0);
    }

    /** "which they WORK OUT" */
    private static void wrongOfWhatIsWorkedOut() {
        MixingRelays net = Nets.butterfly();
        net.bend(4, 1);
        net.broken(5, 1);
        Check.due("nothing is worked out by 5", net.wrong(), 1);
        net.broken(4, 1);
        Check.due("broken lines do not bend", net.wrong(), 0);
        Check.due("worked out still", net.gets(6, 1), -5);
        net.bend(7, 1);
        Check.due("one piece alone", net.wrong(), 1);
        MixingRelays last = Nets.star(4, new int[][] {{1, 1, 1, 0}, {0, 0, 0, 1}});
        last.bend(0, 1);
        Check.due("what is bent is not worked out", last.wrong(), 0);
        last.bend(1, 1);
        Check.due("the last piece", last.wrong(), 1);
    }

    private static MixingRelays allEnds(int h) {
        MixingRelays net = Nets.withRelays(11);
        net.pieces(h);
        for (int relay = 1; relay < 12; relay++) {
            net.factor(net.line(0, relay), 0, 1);
            net.end(relay, 1);
        }
        return net;
    }

    private static void wrongOfAllEnds() {
        MixingRelays net = allEnds(2);
        for (int line = 0; line < 11; line++) {
            Check.due("wrong", net.wrong(), line);
            net.bend(line, 1L << line);
        }
        Check.due("wrong", net.wrong(), 11);
    }

    /** "How many ENDS do not WORK OUT all PIECES." */
    private static void leftCountsEnds() {
        MixingRelays net = Nets.butterfly();
        Check.due("none", net.left(), 0);
        net.broken(5, 1);
        Check.due("one", net.left(), 1);
        net.broken(5, 0);
        net.broken(4, 1);
        Check.due("two, each with one piece", net.left(), 2);
        net.end(5, 0);
        Check.due("one is no end", net.left(), 1);
        net.end(6, 0);
        Check.due("no ends", net.left(), 0);
        MixingRelays most = Nets.star(4, new int[][] {{1, 0, 0, 0}, {0, 1, 0, 0}, {0, 0, 1, 0}, {0, 0, 0, 1}});
        Check.due("all four", most.left(), 0);
        most.factor(3, 3, 0);
        Check.due("three of four", most.left(), 1);
        most.factor(3, 3, 9);
        most.bend(3, 1);
        Check.due("a bend is no lack", most.left(), 0);
    }

    private static void leftOfAllEnds() {
        Check.due("none", allEnds(1).left(), 0);
        Check.due("all", allEnds(2).left(), 11);
        MixingRelays net = Nets.withRelays(1);
        net.end(1, 1);
        Check.due("no lines", net.left(), 1);
    }

    /** The document leaves open what a great i asked of the SOURCE is; it is read as BAD. */
    private static void sourceAndGreatI() {
        MixingRelays net = Nets.butterfly();
        Check.due("fresh(0, 1000)", net.fresh(0, 1000), MixingRelays.BAD);
        Check.due("key(0, 0, 1000)", net.key(0, 0, 1000), MixingRelays.BAD);
        Check.due("fresh(0, -1)", net.fresh(0, -1), NONE);
        Check.due("key(0, 0, -1)", net.key(0, 0, -1), NONE);
    }
}
