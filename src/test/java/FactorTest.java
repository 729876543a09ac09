/** Promises 27 to 29: draw, find, leave. SeedTest holds the last seeds of find. */
public final class FactorTest {
    private static final int NONE = MixingRelays.NONE;

    public static void main(String[] args) {
        drawsBitsSixteenToTwentyThree();
        drawsWrapping();
        drawsByLinesAndIns();
        drawsNoKeptLines();
        drawsBrokenAndBentLines();
        drawsLinesThatCame();
        drawsNone();
        drawsMost();
        findsTheFirstSeed();
        findsALaterSeed();
        findsForAllEnds();
        findsWithKeptLines();
        findsNoneWithKeptLines();
        findsNoneAndLeavesFactors();
        findsNothingWithoutEnds();
        leavesTheFirstInThatDoes();
        leavesFromTheLastDown();
        leavesDownToLineNought();
        leavesRanksAsTheyWere();
        leavesEachEndItsRank();
        leavesFactorsThatMustMix();
        leavesNoKeptLines();
        leavesNoLinesFromTheSource();
        leavesNoPassingLines();
        leavesBrokenLines();
        leavesByNoBrokenIn();
        leavesLinesThatNoEndNeeds();
        leavesMost();
        leavesWithoutEnds();
        Check.finish();
    }

    /** The numbers that a seed brings, told apart from int arithmetic. */
    private static int[] drawn(int seed, int count) {
        int[] row = new int[count];
        long x = seed & 0xffffffffL;
        for (int i = 0; i < count; i++) {
            x = (1103515245L * x + 12345L) % (1L << 32);
            row[i] = (int) (x / 65536 % 256);
        }
        return row;
    }

    private static void factors(String when, MixingRelays net, int line, int... want) {
        Check.due("INS of " + line, net.about(line, 2), want.length);
        for (int i = 0; i < want.length; i++) {
            int was = net.factor(line, i, 0);
            net.factor(line, i, was);
            Check.due(when + ": factor " + i + " of " + line, was, want[i]);
        }
    }

    private static MixingRelays withLines(int relays, int[]... lines) {
        MixingRelays net = Nets.withRelays(relays);
        for (int[] line : lines) {
            net.line(line[0], line[1]);
        }
        return net;
    }

    /** Lines with these factors from the source to relay 1, end 2, and mixing lines from 1 to 2. */
    private static MixingRelays mixing(int h, int[][] rows, int[]... mixed) {
        MixingRelays net = Nets.star(h, rows);
        net.end(1, 0);
        net.end(net.relay(), 1);
        for (int[] row : mixed) {
            int line = net.line(1, 2);
            for (int i = 0; i < row.length; i++) {
                net.factor(line, i, row[i]);
            }
        }
        return net;
    }

    private static int[] row(int... numbers) {
        return numbers;
    }

    /** "the FACTOR is the bits 16 to 23 of x" */
    private static void drawsBitsSixteenToTwentyThree() {
        MixingRelays net = Nets.withRelays(1);
        net.pieces(3);
        net.line(0, 1);
        Check.due("draw(1)", net.draw(1), 3);
        factors("seed 1", net, 0, 198, 126, 129);
        Check.due("draw(0)", net.draw(0), 3);
        factors("seed 0", net, 0, drawn(0, 3));
    }

    /** "x becomes 1103515245 x + 12345 (an int, wrapping)" */
    private static void drawsWrapping() {
        int[] seeds = {0, 1, 2, 40, 41, -1, -7, 65536, Integer.MAX_VALUE, Integer.MIN_VALUE};
        for (int seed : seeds) {
            MixingRelays net = Nets.withRelays(1);
            net.pieces(4);
            net.line(0, 1);
            net.line(0, 1);
            Check.due("draw(" + seed + ")", net.draw(seed), 8);
            int[] want = drawn(seed, 8);
            factors("seed " + seed, net, 0, want[0], want[1], want[2], want[3]);
            factors("seed " + seed, net, 1, want[4], want[5], want[6], want[7]);
        }
    }

    /** "for each LINE by number .. for each of its INS in order", whatever the relay that it leads from */
    private static void drawsByLinesAndIns() {
        MixingRelays net = withLines(2, row(1, 2), row(0, 1), row(0, 2), row(0, 1));
        Check.due("draw(9)", net.draw(9), 5);
        int[] want = drawn(9, 5);
        factors("drawn", net, 0, want[0], want[1]);
        factors("drawn", net, 1, want[2]);
        factors("drawn", net, 2, want[3]);
        factors("drawn", net, 3, want[4]);
        Check.due("x begins anew", net.draw(9), 5);
        factors("drawn", net, 3, want[4]);
    }

    /** "that is not told to be KEPT": its FACTORS stay, and it takes no number away from the others */
    private static void drawsNoKeptLines() {
        MixingRelays net = withLines(2, row(0, 1), row(0, 1), row(1, 2));
        net.factor(1, 0, 77);
        net.keep(1, 1);
        Check.due("draw(5)", net.draw(5), 3);
        int[] want = drawn(5, 4);
        factors("drawn", net, 0, want[0]);
        factors("kept", net, 1, 77);
        factors("drawn", net, 2, want[1], want[2]);
        net.keep(1, 0);
        Check.due("draw(5), none kept", net.draw(5), 4);
        factors("no more kept", net, 1, want[1]);
        factors("drawn", net, 2, want[2], want[3]);
    }

    private static void drawsBrokenAndBentLines() {
        MixingRelays net = withLines(1, row(0, 1), row(0, 1), row(0, 1));
        net.broken(0, 1);
        net.bend(1, 5);
        Check.due("draw(5)", net.draw(5), 3);
        int[] want = drawn(5, 3);
        factors("broken", net, 0, want[0]);
        factors("bent", net, 1, want[1]);
        Check.due("broken still", net.about(0, 4), 1);
        Check.due("bent still", net.about(1, 5), 1);
    }

    private static void drawsLinesThatCame() {
        MixingRelays net = withLines(2, row(1, 2), row(0, 1));
        Check.due("draw(5)", net.draw(5), 2);
        net.line(0, 1);
        int[] want = drawn(5, 4);
        factors("a last factor, 0", net, 0, want[0], 0);
        Check.due("draw(5)", net.draw(5), 4);
        factors("drawn", net, 0, want[0], want[1]);
    }

    private static void drawsNone() {
        Check.due("no lines", new MixingRelays().draw(1), 0);
        Check.due("no INS", withLines(2, row(1, 2)).draw(1), 0);
        MixingRelays net = withLines(1, row(0, 1), row(0, 1));
        net.keep(0, 1);
        net.keep(1, 1);
        Check.due("all kept", net.draw(1), 0);
        factors("kept", net, 0, 0);
    }

    /** 15 lines with 4 INS, and 15 with 15. */
    private static void drawsMost() {
        MixingRelays net = Nets.withRelays(2);
        net.pieces(4);
        for (int line = 0; line < 30; line++) {
            net.line(line / 15, line / 15 + 1);
        }
        Check.due("draw", net.draw(-1), 285);
        Check.due("factors of all", net.count(6), 285);
        int[] want = drawn(-1, 285);
        Check.due("the last one", net.factor(29, 14, 0), want[284]);
        Check.due("the first one", net.factor(0, 0, 0), want[0]);
    }

    /** "DRAW with 1, 2, .., 40, till all ENDS WORK OUT all PIECES" */
    private static void findsTheFirstSeed() {
        MixingRelays net = Nets.butterfly();
        net.draw(17);
        Check.due("find", net.find(), 1);
        Check.due("left", net.left(), 0);
        int[] want = drawn(1, 12);
        factors("as drawn with 1", net, 0, want[0], want[1]);
        factors("as drawn with 1", net, 4, want[6], want[7]);
        factors("as drawn with 1", net, 8, want[11]);
        Check.due("find again", net.find(), 1);
    }

    /** The 188th number that seed 1 brings, line 27's only one, is 0. */
    private static void findsALaterSeed() {
        MixingRelays net = Nets.withRelays(3);
        for (int line = 0; line < 27; line++) {
            net.line(line < 11 ? 0 : 1, line < 11 ? 1 : 2);
        }
        net.line(0, 3);
        net.end(3, 1);
        Check.due("draw(1)", net.draw(1), 188);
        Check.due("draw(1) is not enough", net.left(), 1);
        Check.due("find a later seed", net.find(), 2);
        Check.due("found", net.left(), 0);
        factors("as drawn with 2", net, 27, drawn(2, 188)[187]);
        net.factor(27, 0, 1);
        net.keep(27, 1);
        Check.due("the first seed is tried again", net.find(), 1);
    }

    private static void findsForAllEnds() {
        MixingRelays net = Nets.butterfly();
        net.end(4, 1);
        Check.due("4 gets one line for two pieces", net.find(), NONE);
        net.end(4, 0);
        Check.due("without it", net.find(), 1);
    }

    private static void findsWithKeptLines() {
        MixingRelays net = Nets.star(2, new int[][] {{1, 0}, {0, 3}});
        net.keep(0, 1);
        net.keep(1, 1);
        Check.due("all kept, it works out all", net.find(), 1);
        factors("kept", net, 1, 0, 3);
        net.keep(0, 0);
        Check.due("one kept", net.find(), 1);
        factors("drawn", net, 0, 198, 126);
        factors("kept", net, 1, 0, 3);
    }

    private static void findsNoneWithKeptLines() {
        MixingRelays net = Nets.star(2, new int[][] {{1, 2}, {2, 4}, {9, 9}});
        net.keep(0, 1);
        net.keep(1, 1);
        net.broken(2, 1);
        Check.due("what is kept does not do", net.find(), NONE);
        factors("kept", net, 1, 2, 4);
        factors("as before", net, 2, 9, 9);
    }

    /** "if none does the FACTORS are as before" */
    private static void findsNoneAndLeavesFactors() {
        MixingRelays net = Nets.butterfly();
        net.broken(4, 1);
        Check.due("find, broken", net.find(), NONE);
        factors("as before", net, 0, 1, 0);
        factors("as before", net, 1, 0, 1);
        factors("as before", net, 4, 1, 1);
        factors("as before", net, 8, 1);
        MixingRelays full = Nets.full();
        for (int line = 0; line < 30; line++) {
            full.broken(line, 1);
        }
        int before = full.factor(29, 0, 99);
        Check.due("all broken", full.find(), NONE);
        Check.due("as before", full.factor(29, 0, before), 99);
    }

    /** "NONE: .. or there are no ENDS", and nothing is drawn */
    private static void findsNothingWithoutEnds() {
        MixingRelays net = Nets.butterfly();
        net.end(5, 0);
        net.end(6, 0);
        Check.due("find without ends", net.find(), NONE);
        factors("as before", net, 0, 1, 0);
        factors("as before", net, 4, 1, 1);
        net.end(6, 1);
        Check.due("find with one", net.find(), 1);
    }

    /** "for each of its INS in order: that FACTOR 1, all others 0; the first with which the RANK .. is as it was" */
    private static void leavesTheFirstInThatDoes() {
        MixingRelays first = mixing(1, new int[][] {{1}, {1}, {1}}, row(7, 8, 9));
        Check.due("IN 0 does", first.leave(), 1);
        factors("left", first, 3, 1, 0, 0);
        MixingRelays second = mixing(1, new int[][] {{0}, {1}, {1}}, row(7, 8, 9));
        Check.due("IN 1 does", second.leave(), 1);
        factors("left", second, 3, 0, 1, 0);
        MixingRelays last = mixing(1, new int[][] {{0}, {0}, {1}}, row(7, 8, 9));
        Check.due("IN 2 does", last.leave(), 1);
        factors("left", last, 3, 0, 0, 1);
        Check.due("it is passing", last.about(3, 6), 1);
        Check.due("again", last.leave(), 0);
        MixingRelays unused = mixing(1, new int[][] {{1}, {1}, {1}}, row(0, 8, 9));
        Check.due("IN 0 does, though its factor was 0", unused.leave(), 1);
        factors("left", unused, 3, 1, 0, 0);
    }

    /** "from the last LINE down" */
    private static void leavesFromTheLastDown() {
        MixingRelays net = mixing(2, new int[][] {{1, 0}, {0, 1}}, row(1, 2), row(1, 3));
        Check.due("both", net.leave(), 2);
        factors("the last first", net, 3, 1, 0);
        factors("then the other", net, 2, 0, 1);
        Check.due("rank", net.rank(2), 2);
    }

    private static void leavesDownToLineNought() {
        MixingRelays net = withLines(2, row(1, 2), row(0, 1), row(0, 1));
        net.factor(0, 0, 2);
        net.factor(0, 1, 3);
        net.factor(2, 0, 1);
        net.end(2, 1);
        Check.due("line 0", net.leave(), 1);
        factors("left", net, 0, 0, 1);
    }

    /** "as it was before": neither less nor more */
    private static void leavesRanksAsTheyWere() {
        MixingRelays net = mixing(2, new int[][] {{1, 0}, {0, 1}}, row(1, 1), row(1, 1));
        net.keep(3, 1);
        Check.due("rank", net.rank(2), 1);
        Check.due("by either IN it would be 2", net.leave(), 0);
        factors("stay", net, 2, 1, 1);
        MixingRelays third = mixing(2, new int[][] {{1, 0}, {0, 1}, {1, 1}}, row(1, 1, 0), row(1, 1, 0));
        third.keep(4, 1);
        Check.due("by IN 2 it is 1", third.leave(), 1);
        factors("left", third, 3, 0, 0, 1);
        MixingRelays nought = mixing(2, new int[][] {{1, 0}, {1, 0}, {0, 0}}, row(1, 1, 0));
        Check.due("rank 0", nought.rank(2), 0);
        Check.due("by IN 2 it is 0", nought.leave(), 1);
        factors("left", nought, 3, 0, 0, 1);
    }

    /** "the RANK of each END": by IN 0 end 5 would lose, by IN 1 end 6. */
    private static void leavesEachEndItsRank() {
        MixingRelays net = Nets.butterfly();
        Check.due("both ends", net.leave(), 0);
        factors("stay", net, 4, 1, 1);
        net.end(5, 0);
        Check.due("end 6 alone", net.leave(), 1);
        factors("left", net, 4, 1, 0);
        net.end(6, 0);
        net.end(5, 1);
        net.factor(4, 0, 9);
        net.factor(4, 1, 9);
        Check.due("end 5 alone", net.leave(), 1);
        factors("left", net, 4, 0, 1);
    }

    /** "if there is none its FACTORS stay", while others are tried on */
    private static void leavesFactorsThatMustMix() {
        MixingRelays net = Nets.butterfly();
        net.factor(4, 0, 200);
        net.factor(4, 1, 3);
        net.line(3, 4);
        net.factor(9, 0, 5);
        net.factor(9, 1, 6);
        Check.due("line 9 alone", net.leave(), 1);
        factors("left", net, 9, 1, 0);
        factors("stay", net, 4, 200, 3);
    }

    /** "not KEPT" */
    private static void leavesNoKeptLines() {
        MixingRelays net = mixing(1, new int[][] {{1}, {1}}, row(2, 3), row(4, 5));
        net.keep(2, 1);
        Check.due("one of two", net.leave(), 1);
        factors("kept", net, 2, 2, 3);
        factors("left", net, 3, 1, 0);
        net.keep(2, 0);
        Check.due("no more kept", net.leave(), 1);
        factors("left", net, 2, 1, 0);
    }

    /** "each that is not from the SOURCE" */
    private static void leavesNoLinesFromTheSource() {
        MixingRelays net = Nets.star(2, new int[][] {{5, 6}});
        Check.due("none", net.leave(), 0);
        factors("stay", net, 0, 5, 6);
    }

    /** "not PASSING": a FACTOR of 7 does not become 1 */
    private static void leavesNoPassingLines() {
        MixingRelays net = mixing(1, new int[][] {{1}, {1}}, row(0, 7), row(0, 0));
        Check.due("none", net.leave(), 0);
        factors("one factor", net, 2, 0, 7);
        factors("no factor", net, 3, 0, 0);
    }

    private static void leavesBrokenLines() {
        MixingRelays net = mixing(1, new int[][] {{0}, {1}}, row(2, 3));
        net.broken(2, 1);
        Check.due("the rank is 0 anyhow", net.leave(), 1);
        factors("left", net, 2, 1, 0);
        Check.due("broken still", net.about(2, 4), 1);
    }

    /** A broken IN says 0s, so the next one is tried. */
    private static void leavesByNoBrokenIn() {
        MixingRelays net = mixing(1, new int[][] {{1}, {1}}, row(2, 3));
        net.broken(0, 1);
        Check.due("IN 1 does", net.leave(), 1);
        factors("left", net, 2, 0, 1);
        net.broken(1, 1);
        net.factor(2, 0, 4);
        Check.due("all INS are broken, the rank is 0", net.leave(), 1);
        factors("left", net, 2, 1, 0);
    }

    private static void leavesLinesThatNoEndNeeds() {
        MixingRelays net = mixing(1, new int[][] {{0}, {1}}, row(2, 3));
        net.relay();
        net.line(1, 3);
        net.factor(3, 0, 8);
        net.factor(3, 1, 8);
        Check.due("both", net.leave(), 2);
        factors("the end's", net, 2, 0, 1);
        factors("the other", net, 3, 1, 0);
    }

    private static void leavesMost() {
        MixingRelays net = Nets.star(1, new int[][] {{1}, {1}});
        net.end(1, 0);
        net.end(net.relay(), 1);
        for (int line = 2; line < 30; line++) {
            net.line(1, 2);
        }
        net.draw(5);
        Check.due("none is passing", net.count(5), 0);
        Check.due("leave", net.leave(), 28);
        Check.due("all are passing", net.count(5), 28);
        factors("left", net, 29, 1, 0);
    }

    /** With no END there is none whose RANK could be other than before: so it is read. */
    private static void leavesWithoutEnds() {
        MixingRelays net = mixing(1, new int[][] {{0}, {1}}, row(2, 3));
        net.end(2, 0);
        Check.due("leave", net.leave(), 1);
        factors("left", net, 2, 1, 0);
        Check.due("no lines", new MixingRelays().leave(), 0);
    }
}
