import java.util.Arrays;

/** Lines and relays that lay pieces together; ../shared/DOC.md tells what each call promises. */
public final class MixingRelays {
    public static final int NONE = -1, BAD = -2, STATE = -3, FULL = -4;

    private static final int MOST_RELAYS = 12, MOST_LINES = 30, MOST_PIECES = 4;
    private static final int MOST_BREAKS = 2, LAST_SEED = 40;
    private static final int SOURCE = 0;
    private static final int FINE = 0;

    /** The vector of each piece alone: piece p is told by byte p from below. */
    private static final long[] UNITS = {0x1L, 0x100L, 0x10000L, 0x1000000L};

    private final Net net;
    private final Ways ways;
    private final Span span;
    private final Mixer mixer;
    private final Breaker breaker;

    public MixingRelays() {
        net = new Net();
        ways = new Ways(net);
        span = new Span(net);
        mixer = new Mixer(net, span);
        breaker = new Breaker(net, span);
    }

    // ---- what there is

    public int relay() {
        if (net.relays >= MOST_RELAYS) {
            return FULL;
        }
        net.relays++;
        return net.relays - 1;
    }

    public int line(int from, int to) {
        if (!net.isRelay(from) || !net.isRelay(to)) {
            return NONE;
        }
        if (to <= from) {
            return BAD;
        }
        if (net.lines >= MOST_LINES) {
            return FULL;
        }
        return net.addLine(from, to);
    }

    public int pieces(int h) {
        if (h < 1 || h > MOST_PIECES) {
            return BAD;
        }
        if (net.lines > 0) {
            return STATE;
        }
        int before = net.pieces;
        net.pieces = h;
        Arrays.fill(net.bytes, 0L);
        return before;
    }

    public int piece(int p, long bytes) {
        if (!net.isPiece(p)) {
            return NONE;
        }
        net.bytes[p] = bytes;
        return 0;
    }

    public int end(int relay, int is) {
        if (!net.isRelay(relay)) {
            return NONE;
        }
        if (!isFlag(is) || relay == SOURCE) {
            return BAD;
        }
        int before = flag(net.ends, relay);
        net.ends = withFlag(net.ends, relay, is);
        return before;
    }

    public int factor(int line, int i, int f) {
        if (!net.isLine(line) || i < 0 || i >= net.insOf(line)) {
            return NONE;
        }
        if (!isNumber(f)) {
            return BAD;
        }
        int at = slot(line, i);
        int before = net.factors[at];
        net.factors[at] = f;
        return before;
    }

    public int keep(int line, int is) {
        if (!net.isLine(line)) {
            return NONE;
        }
        if (!isFlag(is)) {
            return BAD;
        }
        int before = flag(net.kept, line);
        net.kept = withFlag(net.kept, line, is);
        return before;
    }

    public int broken(int line, int is) {
        if (!net.isLine(line)) {
            return NONE;
        }
        if (!isFlag(is)) {
            return BAD;
        }
        int before = flag(net.down, line);
        net.down = withFlag(net.down, line, is);
        return before;
    }

    public int bend(int line, long by) {
        if (!net.isLine(line)) {
            return NONE;
        }
        int before = asFlag(net.bends[line] != 0);
        net.bends[line] = by;
        return before;
    }

    public int about(int line, int what) {
        if (!net.isLine(line)) {
            return NONE;
        }
        switch (what) {
            case 0: return net.from[line];
            case 1: return net.to[line];
            case 2: return net.insOf(line);
            case 3: return flag(net.kept, line);
            case 4: return flag(net.down, line);
            case 5: return asFlag(net.bends[line] != 0);
            case 6: return asFlag(net.isPassing(line));
            default: return NONE;
        }
    }

    // ---- the field

    public int times(int a, int b) {
        return isNumber(a) && isNumber(b) ? product(a, b) : BAD;
    }

    public int inverse(int a) {
        return isNumber(a) && a != 0 ? inverseOf(a) : BAD;
    }

    // ---- flows

    public int flow(int relay) {
        int refusal = refusalOf(relay);
        return refusal != FINE ? refusal : ways.mostTo(relay);
    }

    public int cut(int relay, int i) {
        int refusal = i < 0 ? NONE : refusalOf(relay);
        if (refusal != FINE) {
            return refusal;
        }
        ways.mostTo(relay);
        return ways.cutLine(i);
    }

    public int rate() {
        int least = NONE;
        for (int relay = 1; relay < net.relays; relay++) {
            if (flag(net.ends, relay) == 1) {
                int most = ways.mostTo(relay);
                least = least == NONE ? most : Math.min(least, most);
            }
        }
        return least == NONE ? 0 : least;
    }

    // ---- what lines say and carry

    public int vector(int line, int p) {
        if (!net.isLine(line) || !net.isPiece(p)) {
            return NONE;
        }
        net.spreadVectors(net.down);
        return byteOf(net.vectors[line], p);
    }

    public long carries(int line) {
        if (!net.isLine(line)) {
            return 0L;
        }
        net.spreadBytes();
        return net.carried[line];
    }

    // ---- what ends work out

    public int rank(int relay) {
        int refusal = refusalOf(relay);
        return refusal != FINE ? refusal : span.rankNow(relay);
    }

    public int fresh(int relay, int i) {
        int refusal = i < 0 ? NONE : refusalOf(relay);
        if (refusal != FINE) {
            return refusal;
        }
        int size = span.rankNow(relay);
        return i >= size ? NONE : span.newLines[i];
    }

    public int solves(int relay, int p) {
        int refusal = refusalOf(relay, p);
        if (refusal != FINE) {
            return refusal;
        }
        span.rankNow(relay);
        return asFlag(span.worksOut(p));
    }

    public int key(int relay, int p, int i) {
        int refusal = i < 0 ? NONE : refusalOf(relay, p);
        if (refusal != FINE) {
            return refusal;
        }
        int size = span.rankNow(relay);
        if (!span.worksOut(p) || i >= size) {
            return NONE;
        }
        return span.keyNumber(p, i);
    }

    public long gets(int relay, int p) {
        if (refusalOf(relay, p) != FINE) {
            return 0L;
        }
        span.rankNow(relay);
        if (!span.worksOut(p)) {
            return 0L;
        }
        net.spreadBytes();
        return span.bytesFor(p);
    }

    public int lack(int relay, int p, int q) {
        int refusal = net.isPiece(q) ? refusalOf(relay, p) : NONE;
        if (refusal != FINE) {
            return refusal;
        }
        span.rankNow(relay);
        return span.worksOut(p) ? NONE : span.lackNumber(p, q);
    }

    public int wrong() {
        net.spreadVectors(net.down);
        net.spreadBytes();
        int misled = 0;
        for (int relay = 1; relay < net.relays; relay++) {
            if (flag(net.ends, relay) == 1) {
                span.gather(relay);
                misled += asFlag(span.isMisled());
            }
        }
        return misled;
    }

    public int left() {
        return span.unfinishedEnds();
    }

    // ---- factors

    public int draw(int seed) {
        return mixer.drawWith(seed);
    }

    public int find() {
        return net.ends == 0 ? NONE : mixer.firstSeed();
    }

    public int leave() {
        return mixer.unmixAll();
    }

    public int safe(int k, int r) {
        if (!isBreakCount(k) || r < 0 || r > net.pieces) {
            return BAD;
        }
        return asFlag(!breaker.search(k, r));
    }

    public int breaks(int k, int r, int what) {
        if (what < 0 || what > 2) {
            return NONE;
        }
        if (!isBreakCount(k) || r < 0 || r > net.pieces) {
            return BAD;
        }
        if (!breaker.search(k, r)) {
            return NONE;
        }
        if (what == 0) {
            return breaker.lesser;
        }
        return what == 1 ? breaker.greater : breaker.weakEnd;
    }

    public int count(int what) {
        switch (what) {
            case 0: return net.relays;
            case 1: return net.lines;
            case 2: return net.pieces;
            case 3: return Integer.bitCount(net.ends);
            case 4: return Integer.bitCount(net.down);
            case 5: return net.passingLines();
            case 6: return net.allFactors();
            default: return NONE;
        }
    }

    // ---- refusals and small numbers

    /**
     * The source is refused ahead of an i from 0 on, for it has no list in which such an i could be
     * missing; an i below 0 is missing in every list, so callers refuse it first.
     */
    private int refusalOf(int relay) {
        if (!net.isRelay(relay)) {
            return NONE;
        }
        return relay == SOURCE ? BAD : FINE;
    }

    private int refusalOf(int relay, int p) {
        return net.isPiece(p) ? refusalOf(relay) : NONE;
    }

    private static boolean isFlag(int is) {
        return is == 0 || is == 1;
    }

    private static boolean isNumber(int f) {
        return f >= 0 && f <= 255;
    }

    private static boolean isBreakCount(int k) {
        return k >= 0 && k <= MOST_BREAKS;
    }

    private static int asFlag(boolean is) {
        return is ? 1 : 0;
    }

    private static int flag(int set, int member) {
        return set >>> member & 1;
    }

    private static int withFlag(int set, int member, int is) {
        return set & ~(1 << member) | is << member;
    }

    private static int slot(int row, int i) {
        return row * MOST_LINES + i;
    }

    private static int byteOf(long row, int index) {
        return (int) (row >>> 8 * index) & 255;
    }

    /** All eight bytes are doubled at once: a byte's lost top bit comes back to it as x^4 + x^3 + x + 1. */
    private static long scaled(long row, int f) {
        long sum = 0L;
        long power = row;
        int rest = f;
        for (int bit = 0; bit < 8 && rest != 0; bit++) {
            if ((rest & 1) == 1) {
                sum ^= power;
            }
            long lost = power >>> 7 & 0x0101010101010101L;
            power = (power & 0x7f7f7f7f7f7f7f7fL) << 1 ^ lost * 0x1bL;
            rest >>>= 1;
        }
        return sum;
    }

    private static int product(int a, int b) {
        return (int) scaled(a, b);
    }

    /**
     * a to the 254th, since a to the 255th is 1 for every a but 0. Not by product: leave and breaks would
     * then go nine calls deep.
     */
    private static int inverseOf(int a) {
        long power = a;
        long result = 1L;
        for (int bit = 1; bit < 8; bit++) {
            power = scaled(power, (int) power);
            result = scaled(result, (int) power);
        }
        return (int) result;
    }

    /** The relays and lines, and what goes along them. */
    private static final class Net {
        int relays = 1;
        int lines = 0;
        int pieces = 1;
        int ends = 0;
        int kept = 0;
        int down = 0;
        final int[] from = new int[MOST_LINES];
        final int[] to = new int[MOST_LINES];
        final long[] bends = new long[MOST_LINES];
        final long[] bytes = new long[MOST_PIECES];
        final int[] factors = new int[MOST_LINES * MOST_LINES];
        final int[] leading = new int[MOST_RELAYS * MOST_LINES];
        final int[] leadingCount = new int[MOST_RELAYS];
        /** The lines by the relay that they come from, so that the ins of each stand ahead of it. */
        final int[] order = new int[MOST_LINES];
        final long[] vectors = new long[MOST_LINES];
        final long[] carried = new long[MOST_LINES];

        boolean isRelay(int relay) {
            return relay >= 0 && relay < relays;
        }

        boolean isLine(int line) {
            return line >= 0 && line < lines;
        }

        boolean isPiece(int p) {
            return p >= 0 && p < pieces;
        }

        int insOf(int line) {
            return from[line] == SOURCE ? pieces : leadingCount[from[line]];
        }

        int addLine(int source, int target) {
            int line = lines;
            from[line] = source;
            to[line] = target;
            leading[slot(target, leadingCount[target])] = line;
            leadingCount[target]++;
            int place = line;
            for (; place > 0 && from[order[place - 1]] > source; place--) {
                order[place] = order[place - 1];
            }
            order[place] = line;
            lines++;
            return line;
        }

        boolean isPassing(int line) {
            if (from[line] == SOURCE) {
                return false;
            }
            int used = 0;
            for (int i = 0; i < insOf(line); i++) {
                used += asFlag(factors[slot(line, i)] != 0);
            }
            return used <= 1;
        }

        int passingLines() {
            int sum = 0;
            for (int line = 0; line < lines; line++) {
                sum += asFlag(isPassing(line));
            }
            return sum;
        }

        int allFactors() {
            int sum = 0;
            for (int line = 0; line < lines; line++) {
                sum += insOf(line);
            }
            return sum;
        }

        /** The broken lines are an argument, so that breaks can be tried without making them. */
        void spreadVectors(int brokenLines) {
            for (int place = 0; place < lines; place++) {
                int line = order[place];
                vectors[line] = flag(brokenLines, line) == 1 ? 0L : mixed(line, UNITS, vectors);
            }
        }

        void spreadBytes() {
            for (int place = 0; place < lines; place++) {
                int line = order[place];
                carried[line] = flag(down, line) == 1 ? 0L : mixed(line, bytes, carried) ^ bends[line];
            }
        }

        private long mixed(int line, long[] pieceRows, long[] lineRows) {
            long sum = 0L;
            int relay = from[line];
            int ins = insOf(line);
            for (int i = 0; i < ins; i++) {
                long row = relay == SOURCE ? pieceRows[i] : lineRows[leading[slot(relay, i)]];
                sum ^= scaled(row, factors[slot(line, i)]);
            }
            return sum;
        }
    }

    /** Ways from the source to one relay, no two with a line in common. */
    private static final class Ways {
        private final Net net;
        private final int[] cameBy = new int[MOST_RELAYS];
        private int taken = 0;
        private int reached = 0;

        Ways(Net net) {
            this.net = net;
        }

        /** One round more than there are lines: the last one leaves in reached the relays ahead of the cut. */
        int mostTo(int relay) {
            taken = 0;
            int most = 0;
            for (int round = 0; round <= net.lines; round++) {
                reach();
                if (flag(reached, relay) == 0) {
                    break;
                }
                turnWayTo(relay);
                most++;
            }
            return most;
        }

        int cutLine(int i) {
            int ahead = 0;
            for (int line = 0; line < net.lines; line++) {
                if (flag(net.down, line) == 0 && flag(reached, net.from[line]) == 1
                        && flag(reached, net.to[line]) == 0) {
                    if (ahead == i) {
                        return line;
                    }
                    ahead++;
                }
            }
            return NONE;
        }

        private void reach() {
            reached = 1 << SOURCE;
            for (int round = 0; round < net.relays; round++) {
                int before = reached;
                for (int line = 0; line < net.lines; line++) {
                    if (flag(net.down, line) == 0) {
                        reachBy(line);
                    }
                }
                if (reached == before) {
                    break;
                }
            }
        }

        /** A taken line is gone along backwards: that gives it up for another way. */
        private void reachBy(int line) {
            boolean back = flag(taken, line) == 1;
            int here = back ? net.to[line] : net.from[line];
            int there = back ? net.from[line] : net.to[line];
            if (flag(reached, here) == 1 && flag(reached, there) == 0) {
                reached |= 1 << there;
                cameBy[there] = line;
            }
        }

        private void turnWayTo(int relay) {
            int at = relay;
            for (int step = 0; step < net.relays && at != SOURCE; step++) {
                int line = cameBy[at];
                taken ^= 1 << line;
                at = net.to[line] == at ? net.from[line] : net.to[line];
            }
        }
    }

    /** What the vectors that lead to one relay span. */
    private static final class Span {
        private final Net net;
        /**
         * Row p is 1 at piece p, its last one that is not 0, and 0 wherever another row ends; it is 0 if
         * none ends at p. Its four upper bytes tell how often each new line is in it.
         */
        private final long[] rows = new long[MOST_PIECES];
        final int[] newLines = new int[MOST_PIECES];
        private int size = 0;

        Span(Net net) {
            this.net = net;
        }

        int rankNow(int relay) {
            net.spreadVectors(net.down);
            return gather(relay);
        }

        /** The vectors must have been spread. */
        int gather(int relay) {
            size = 0;
            Arrays.fill(rows, 0L);
            for (int i = 0; i < net.leadingCount[relay] && size < net.pieces; i++) {
                take(net.leading[slot(relay, i)]);
            }
            return size;
        }

        private void take(int line) {
            long row = net.vectors[line] | UNITS[size] << 32;
            for (int p = 0; p < net.pieces; p++) {
                row ^= scaled(rows[p], byteOf(row, p));
            }
            int last = lastPieceIn(row, net.pieces);
            if (last == NONE) {
                return;
            }
            row = scaled(row, inverseOf(byteOf(row, last)));
            for (int p = 0; p < net.pieces; p++) {
                rows[p] ^= scaled(row, byteOf(rows[p], last));
            }
            rows[last] = row;
            newLines[size] = line;
            size++;
        }

        private static int lastPieceIn(long row, int below) {
            for (int p = below - 1; p >= 0; p--) {
                if (byteOf(row, p) != 0) {
                    return p;
                }
            }
            return NONE;
        }

        boolean worksOut(int p) {
            return (rows[p] & 0xffffffffL) == UNITS[p];
        }

        int keyNumber(int p, int i) {
            return byteOf(rows[p], MOST_PIECES + i);
        }

        /** The bytes must have been spread. */
        long bytesFor(int p) {
            long sum = 0L;
            for (int i = 0; i < size; i++) {
                sum ^= scaled(net.carried[newLines[i]], keyNumber(p, i));
            }
            return sum;
        }

        /**
         * The numbers at which rows end follow from the others, which are free. Of these all can be 0 but
         * the one that makes the number at p a 1: the last that may, so that the first numbers stay least.
         */
        int lackNumber(int p, int q) {
            int free = rows[p] == 0L ? p : lastPieceIn(rows[p], p);
            if (free == NONE) {
                return NONE;
            }
            int value = free == p ? 1 : inverseOf(byteOf(rows[p], free));
            return q == free ? value : product(byteOf(rows[q], free), value);
        }

        boolean isMisled() {
            for (int p = 0; p < net.pieces; p++) {
                if (worksOut(p) && bytesFor(p) != net.bytes[p]) {
                    return true;
                }
            }
            return false;
        }

        int unfinishedEnds() {
            net.spreadVectors(net.down);
            int unfinished = 0;
            for (int relay = 1; relay < net.relays; relay++) {
                if (flag(net.ends, relay) == 1 && gather(relay) < net.pieces) {
                    unfinished++;
                }
            }
            return unfinished;
        }
    }

    /** Draws factors, and takes them away where mixing is for nothing. */
    private static final class Mixer {
        private final Net net;
        private final Span span;
        private final int[] saved = new int[MOST_LINES * MOST_LINES];
        private final int[] ranks = new int[MOST_RELAYS];

        Mixer(Net net, Span span) {
            this.net = net;
            this.span = span;
        }

        int drawWith(int seed) {
            int x = seed;
            int drawn = 0;
            for (int line = 0; line < net.lines; line++) {
                int ins = flag(net.kept, line) == 1 ? 0 : net.insOf(line);
                for (int i = 0; i < ins; i++) {
                    x = 1103515245 * x + 12345;
                    net.factors[slot(line, i)] = x >>> 16 & 255;
                    drawn++;
                }
            }
            return drawn;
        }

        int firstSeed() {
            System.arraycopy(net.factors, 0, saved, 0, saved.length);
            for (int seed = 1; seed <= LAST_SEED; seed++) {
                drawWith(seed);
                if (span.unfinishedEnds() == 0) {
                    return seed;
                }
            }
            System.arraycopy(saved, 0, net.factors, 0, saved.length);
            return NONE;
        }

        int unmixAll() {
            noteRanks();
            int unmixed = 0;
            for (int line = net.lines - 1; line >= 0; line--) {
                if (net.from[line] != SOURCE && flag(net.kept, line) == 0 && !net.isPassing(line)) {
                    unmixed += asFlag(unmix(line));
                }
            }
            return unmixed;
        }

        private boolean unmix(int line) {
            int start = slot(line, 0);
            int ins = net.insOf(line);
            System.arraycopy(net.factors, start, saved, start, ins);
            for (int i = 0; i < ins; i++) {
                Arrays.fill(net.factors, start, start + ins, 0);
                net.factors[start + i] = 1;
                if (ranksHold()) {
                    return true;
                }
            }
            System.arraycopy(saved, start, net.factors, start, ins);
            return false;
        }

        private void noteRanks() {
            net.spreadVectors(net.down);
            for (int relay = 1; relay < net.relays; relay++) {
                ranks[relay] = span.gather(relay);
            }
        }

        private boolean ranksHold() {
            net.spreadVectors(net.down);
            for (int relay = 1; relay < net.relays; relay++) {
                if (flag(net.ends, relay) == 1 && span.gather(relay) != ranks[relay]) {
                    return false;
                }
            }
            return true;
        }
    }

    /** Looks for lines that must not break together. */
    private static final class Breaker {
        private final Net net;
        private final Span span;
        int lesser = NONE;
        int greater = NONE;
        int weakEnd = NONE;

        Breaker(Net net, Span span) {
            this.net = net;
            this.span = span;
        }

        /** Whether a set of at most k lines takes an end below rank r; the fields then tell the first one. */
        boolean search(int k, int r) {
            lesser = NONE;
            greater = NONE;
            return weakens(0, r) || k >= 1 && searchOne(r) || k >= 2 && searchTwo(r);
        }

        private boolean searchOne(int r) {
            for (int line = 0; line < net.lines; line++) {
                if (flag(net.down, line) == 0 && weakens(1 << line, r)) {
                    lesser = line;
                    return true;
                }
            }
            return false;
        }

        private boolean searchTwo(int r) {
            for (int one = 0; one < net.lines; one++) {
                for (int two = one + 1; two < net.lines; two++) {
                    int both = 1 << one | 1 << two;
                    if ((net.down & both) == 0 && weakens(both, r)) {
                        lesser = one;
                        greater = two;
                        return true;
                    }
                }
            }
            return false;
        }

        private boolean weakens(int set, int r) {
            net.spreadVectors(net.down | set);
            for (int relay = 1; relay < net.relays; relay++) {
                if (flag(net.ends, relay) == 1 && span.gather(relay) < r) {
                    weakEnd = relay;
                    return true;
                }
            }
            return false;
        }
    }
}
