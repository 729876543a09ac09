import java.util.ArrayList;
import java.util.List;

/**
 * The document written a second time, by other and slower ways (all cuts are looked at, systems are
 * solved by trying), so that ModelTest has something to hold the class against.
 */
final class Model {
    static final int NONE = -1, BAD = -2, STATE = -3, FULL = -4;

    static final class Line {
        int from;
        int to;
        boolean kept;
        boolean broken;
        long bend;
        List<Integer> factors = new ArrayList<>();
    }

    int relays = 1;
    long[] pieces = new long[1];
    boolean[] ends = new boolean[12];
    List<Line> lines = new ArrayList<>();

    int relay() {
        return relays == 12 ? FULL : relays++;
    }

    int line(int from, int to) {
        if (noRelay(from) || noRelay(to)) return NONE;
        if (from >= to) return BAD;
        if (lines.size() == 30) return FULL;
        Line fresh = new Line();
        fresh.from = from;
        fresh.to = to;
        int ins = from == 0 ? pieces.length : leadingTo(from).size();
        for (int i = 0; i < ins; i++) fresh.factors.add(0);
        for (Line other : lines) if (other.from == to) other.factors.add(0);
        lines.add(fresh);
        return lines.size() - 1;
    }

    int pieces(int h) {
        if (h < 1 || h > 4) return BAD;
        if (!lines.isEmpty()) return STATE;
        int before = pieces.length;
        pieces = new long[h];
        return before;
    }

    int piece(int p, long bytes) {
        if (noPiece(p)) return NONE;
        pieces[p] = bytes;
        return 0;
    }

    int end(int relay, int is) {
        if (noRelay(relay)) return NONE;
        if (is != 0 && is != 1 || relay == 0) return BAD;
        int before = ends[relay] ? 1 : 0;
        ends[relay] = is == 1;
        return before;
    }

    int factor(int line, int i, int f) {
        if (noLine(line) || i < 0 || i >= lines.get(line).factors.size()) return NONE;
        if (f < 0 || f > 255) return BAD;
        return lines.get(line).factors.set(i, f);
    }

    int keep(int line, int is) {
        if (noLine(line)) return NONE;
        if (is != 0 && is != 1) return BAD;
        int before = lines.get(line).kept ? 1 : 0;
        lines.get(line).kept = is == 1;
        return before;
    }

    int broken(int line, int is) {
        if (noLine(line)) return NONE;
        if (is != 0 && is != 1) return BAD;
        int before = lines.get(line).broken ? 1 : 0;
        lines.get(line).broken = is == 1;
        return before;
    }

    int bend(int line, long by) {
        if (noLine(line)) return NONE;
        int before = lines.get(line).bend != 0 ? 1 : 0;
        lines.get(line).bend = by;
        return before;
    }

    int about(int line, int what) {
        if (noLine(line) || what < 0 || what > 6) return NONE;
        Line of = lines.get(line);
        int[] all = {of.from, of.to, of.factors.size(), of.kept ? 1 : 0, of.broken ? 1 : 0,
            of.bend != 0 ? 1 : 0, passing(of) ? 1 : 0};
        return all[what];
    }

    int times(int a, int b) {
        if (a < 0 || a > 255 || b < 0 || b > 255) return BAD;
        return FieldTest.slowProduct(a, b);
    }

    int inverse(int a) {
        if (a < 1 || a > 255) return BAD;
        int b = 1;
        while (FieldTest.slowProduct(a, b) != 1) b++;
        return b;
    }

    int flow(int relay) {
        if (noRelay(relay)) return NONE;
        if (relay == 0) return BAD;
        return leastCut(relay).size();
    }

    int cut(int relay, int i) {
        if (noRelay(relay) || i < 0) return NONE;
        if (relay == 0) return BAD;
        List<Integer> cut = leastCut(relay);
        return i >= cut.size() ? NONE : cut.get(i);
    }

    int rate() {
        int least = Integer.MAX_VALUE;
        for (int relay = 1; relay < relays; relay++) {
            if (ends[relay]) least = Math.min(least, flow(relay));
        }
        return least == Integer.MAX_VALUE ? 0 : least;
    }

    int vector(int line, int p) {
        if (noLine(line) || noPiece(p)) return NONE;
        return vectorOf(line)[p];
    }

    long carries(int line) {
        if (noLine(line)) return 0;
        Line of = lines.get(line);
        if (of.broken) return 0;
        List<Integer> leading = leadingTo(of.from);
        long sum = of.bend;
        for (int i = 0; i < of.factors.size(); i++) {
            sum ^= byteWise(of.from == 0 ? pieces[i] : carries(leading.get(i)), of.factors.get(i));
        }
        return sum;
    }

    int rank(int relay) {
        if (noRelay(relay)) return NONE;
        return relay == 0 ? BAD : newLines(relay).size();
    }

    int fresh(int relay, int i) {
        if (noRelay(relay) || i < 0) return NONE;
        if (relay == 0) return BAD;
        List<Integer> fresh = newLines(relay);
        return i >= fresh.size() ? NONE : fresh.get(i);
    }

    int solves(int relay, int p) {
        if (noRelay(relay) || noPiece(p)) return NONE;
        if (relay == 0) return BAD;
        List<int[]> rows = vectorsTo(relay);
        int before = rankOf(rows);
        rows.add(unit(p));
        return rankOf(rows) == before ? 1 : 0;
    }

    int key(int relay, int p, int i) {
        int solves = solves(relay, p);
        if (i < 0) return NONE;
        if (solves < 0) return solves;
        int[] key = keyOf(relay, p);
        return solves == 0 || i >= key.length ? NONE : key[i];
    }

    long gets(int relay, int p) {
        if (solves(relay, p) != 1) return 0;
        int[] key = keyOf(relay, p);
        long sum = 0;
        for (int i = 0; i < key.length; i++) sum ^= byteWise(carries(newLines(relay).get(i)), key[i]);
        return sum;
    }

    int lack(int relay, int p, int q) {
        if (noRelay(relay) || noPiece(p) || noPiece(q)) return NONE;
        if (relay == 0) return BAD;
        if (solves(relay, p) == 1) return NONE;
        List<int[]> system = new ArrayList<>();
        for (int[] row : vectorsTo(relay)) system.add(withLast(row, 0));
        system.add(withLast(unit(p), 1));
        int found = NONE;
        for (int at = 0; at <= q; at++) {
            found = 0;
            system.add(withLast(unit(at), 0));
            while (!hasAnswer(system)) system.get(system.size() - 1)[pieces.length] = ++found;
        }
        return found;
    }

    int wrong() {
        int sum = 0;
        for (int relay = 1; relay < relays; relay++) {
            boolean misled = false;
            for (int p = 0; p < pieces.length; p++) {
                misled |= solves(relay, p) == 1 && gets(relay, p) != pieces[p];
            }
            if (ends[relay] && misled) sum++;
        }
        return sum;
    }

    int left() {
        int sum = 0;
        for (int relay = 1; relay < relays; relay++) {
            boolean all = true;
            for (int p = 0; p < pieces.length; p++) all &= solves(relay, p) == 1;
            if (ends[relay] && !all) sum++;
        }
        return sum;
    }

    int draw(int seed) {
        int x = seed;
        int drawn = 0;
        for (Line line : lines) {
            if (line.kept) continue;
            for (int i = 0; i < line.factors.size(); i++) {
                x = 1103515245 * x + 12345;
                line.factors.set(i, Math.floorMod(Math.floorDiv(x, 1 << 16), 256));
                drawn++;
            }
        }
        return drawn;
    }

    int find() {
        if (count(3) == 0) return NONE;
        List<List<Integer>> before = new ArrayList<>();
        for (Line line : lines) before.add(new ArrayList<>(line.factors));
        for (int seed = 1; seed <= 40; seed++) {
            draw(seed);
            if (left() == 0) return seed;
        }
        for (int line = 0; line < lines.size(); line++) lines.get(line).factors = before.get(line);
        return NONE;
    }

    int leave() {
        int passed = count(5);
        for (int at = lines.size() - 1; at >= 0; at--) {
            Line line = lines.get(at);
            if (line.from == 0 || line.kept || passing(line)) continue;
            List<Integer> stay = line.factors;
            List<Integer> ranks = endRanks();
            boolean done = false;
            for (int i = 0; i < stay.size() && !done; i++) {
                line.factors = new ArrayList<>();
                for (int j = 0; j < stay.size(); j++) line.factors.add(i == j ? 1 : 0);
                done = endRanks().equals(ranks);
            }
            if (!done) line.factors = stay;
        }
        return count(5) - passed;
    }

    int safe(int k, int r) {
        if (k < 0 || k > 2 || r < 0 || r > pieces.length) return BAD;
        return firstBreak(k, r) == null ? 1 : 0;
    }

    int breaks(int k, int r, int what) {
        if (what < 0 || what > 2) return NONE;
        if (k < 0 || k > 2 || r < 0 || r > pieces.length) return BAD;
        int[] first = firstBreak(k, r);
        return first == null ? NONE : first[what];
    }

    int count(int what) {
        int ended = 0;
        for (boolean end : ends) ended += end ? 1 : 0;
        int down = 0;
        int passed = 0;
        int factors = 0;
        for (Line line : lines) {
            down += line.broken ? 1 : 0;
            passed += passing(line) ? 1 : 0;
            factors += line.factors.size();
        }
        int[] all = {relays, lines.size(), pieces.length, ended, down, passed, factors};
        return what < 0 || what > 6 ? NONE : all[what];
    }

    private boolean noRelay(int relay) {
        return relay < 0 || relay >= relays;
    }

    private boolean noLine(int line) {
        return line < 0 || line >= lines.size();
    }

    private boolean noPiece(int p) {
        return p < 0 || p >= pieces.length;
    }

    private static boolean passing(Line line) {
        return line.from != 0 && line.factors.stream().filter(f -> f != 0).count() <= 1;
    }

    private List<Integer> leadingTo(int relay) {
        List<Integer> leading = new ArrayList<>();
        for (int line = 0; line < lines.size(); line++) {
            if (lines.get(line).to == relay) leading.add(line);
        }
        return leading;
    }

    private int[] vectorOf(int line) {
        Line of = lines.get(line);
        int[] sum = new int[pieces.length];
        if (of.broken) return sum;
        List<Integer> leading = leadingTo(of.from);
        for (int i = 0; i < of.factors.size(); i++) {
            if (of.factors.get(i) == 0) continue;
            int[] in = of.from == 0 ? unit(i) : vectorOf(leading.get(i));
            for (int p = 0; p < sum.length; p++) sum[p] ^= FieldTest.slowProduct(of.factors.get(i), in[p]);
        }
        return sum;
    }

    private int[] unit(int p) {
        int[] row = new int[pieces.length];
        row[p] = 1;
        return row;
    }

    private static int[] withLast(int[] row, int last) {
        int[] longer = java.util.Arrays.copyOf(row, row.length + 1);
        longer[row.length] = last;
        return longer;
    }

    private static long byteWise(long row, int f) {
        long sum = 0;
        for (int at = 0; at < 64; at += 8) {
            sum |= (long) FieldTest.slowProduct((int) (row >> at & 255), f) << at;
        }
        return sum;
    }

    /** Every set of relays with the source and not with this one is looked at, the smaller ones first. */
    private List<Integer> leastCut(int relay) {
        List<Integer> best = null;
        int bestSize = 0;
        for (int set = 1; set < 1 << relays; set += 2) {
            if ((set >> relay & 1) == 1) continue;
            List<Integer> out = new ArrayList<>();
            for (int line = 0; line < lines.size(); line++) {
                Line of = lines.get(line);
                if (!of.broken && (set >> of.from & 1) == 1 && (set >> of.to & 1) == 0) out.add(line);
            }
            int size = Integer.bitCount(set);
            if (best == null || out.size() < best.size() || out.size() == best.size() && size < bestSize) {
                best = out;
                bestSize = size;
            }
        }
        return best;
    }

    private List<int[]> vectorsTo(int relay) {
        List<int[]> rows = new ArrayList<>();
        for (int line : leadingTo(relay)) rows.add(vectorOf(line));
        return rows;
    }

    private List<Integer> newLines(int relay) {
        List<Integer> fresh = new ArrayList<>();
        List<int[]> rows = new ArrayList<>();
        for (int line : leadingTo(relay)) {
            rows.add(vectorOf(line));
            if (rankOf(rows) > fresh.size()) fresh.add(line);
        }
        return fresh;
    }

    /** By columns from the left, without making the leading numbers 1. */
    private static int rankOf(List<int[]> rows) {
        List<int[]> rest = new ArrayList<>();
        for (int[] row : rows) rest.add(row.clone());
        int rank = 0;
        int width = rest.isEmpty() ? 0 : rest.get(0).length;
        for (int column = 0; column < width; column++) {
            int at = rank;
            while (at < rest.size() && rest.get(at)[column] == 0) at++;
            if (at == rest.size()) continue;
            java.util.Collections.swap(rest, at, rank);
            int[] lead = rest.get(rank++);
            for (int other = rank; other < rest.size(); other++) {
                int[] row = rest.get(other);
                int here = row[column];
                for (int c = 0; c < width; c++) {
                    row[c] = FieldTest.slowProduct(row[c], lead[column]) ^ FieldTest.slowProduct(lead[c], here);
                }
            }
        }
        return rank;
    }

    private static boolean hasAnswer(List<int[]> system) {
        List<int[]> left = new ArrayList<>();
        for (int[] row : system) left.add(java.util.Arrays.copyOf(row, row.length - 1));
        return rankOf(left) == rankOf(system);
    }

    /** One number after the other, each the one that leaves the system an answer. */
    private int[] keyOf(int relay, int p) {
        List<Integer> fresh = newLines(relay);
        int[] key = new int[fresh.size()];
        if (solves(relay, p) != 1) return key;
        List<int[]> system = new ArrayList<>();
        for (int q = 0; q < pieces.length; q++) {
            int[] row = new int[key.length + 1];
            for (int i = 0; i < key.length; i++) row[i] = vectorOf(fresh.get(i))[q];
            row[key.length] = p == q ? 1 : 0;
            system.add(row);
        }
        for (int i = 0; i < key.length; i++) {
            int[] told = new int[key.length + 1];
            told[i] = 1;
            system.add(told);
            while (!hasAnswer(system)) told[key.length] = ++key[i];
        }
        return key;
    }

    private List<Integer> endRanks() {
        List<Integer> ranks = new ArrayList<>();
        for (int relay = 1; relay < relays; relay++) {
            if (ends[relay]) ranks.add(rankOf(vectorsTo(relay)));
        }
        return ranks;
    }

    /** Lesser line, greater line, end; null if it is safe. */
    private int[] firstBreak(int k, int r) {
        List<int[]> sets = new ArrayList<>();
        sets.add(new int[] {NONE, NONE});
        for (int one = 0; one < lines.size() && k > 0; one++) sets.add(new int[] {one, NONE});
        for (int one = 0; one < lines.size() && k > 1; one++) {
            for (int two = one + 1; two < lines.size(); two++) sets.add(new int[] {one, two});
        }
        for (int[] set : sets) {
            int end = weakEnd(set, r);
            if (end > 0) return new int[] {set[0], set[1], end};
        }
        return null;
    }

    private int weakEnd(int[] set, int r) {
        for (int line : set) if (line >= 0 && lines.get(line).broken) return 0;
        for (int line : set) if (line >= 0) lines.get(line).broken = true;
        int weak = 0;
        for (int relay = 1; relay < relays && weak == 0; relay++) {
            if (ends[relay] && rankOf(vectorsTo(relay)) < r) weak = relay;
        }
        for (int line : set) if (line >= 0) lines.get(line).broken = false;
        return weak;
    }
}
