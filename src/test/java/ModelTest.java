import java.util.Random;

/** Random runs of at most 512 calls, wrong arguments among them, each call asked of the class and the model. */
public final class ModelTest {
    private static final int RUNS = 120;

    private final Random random;
    private final MixingRelays net = new MixingRelays();
    private final Model model = new Model();
    private final int seed;
    /** Small factors make vectors depend on each other more often. */
    private final int mostFactor;
    private int calls = 0;

    private ModelTest(int seed) {
        this.seed = seed;
        this.random = new Random(seed);
        this.mostFactor = new int[] {1, 2, 255}[random.nextInt(3)];
    }

    public static void main(String[] args) {
        for (int seed = 0; seed < RUNS && Check.wrongSoFar() == 0; seed++) {
            ModelTest run = new ModelTest(seed);
            run.build();
            while (run.calls < 510) {
                run.step();
            }
        }
        Check.finish();
    }

    private void due(String call, long got, long want) {
        calls++;
        Check.due("seed " + seed + ", call " + calls + ": " + call, got, want);
    }

    private void build() {
        int h = random.nextInt(6);
        due("pieces(" + h + ")", net.pieces(h), model.pieces(h));
        int relays = 1 + random.nextInt(random.nextBoolean() ? 5 : 13);
        for (int i = 0; i < relays; i++) {
            due("relay()", net.relay(), model.relay());
        }
        for (int p = 0; p < model.pieces.length; p++) {
            long bytes = random.nextLong();
            due("piece", net.piece(p, bytes), model.piece(p, bytes));
        }
        int lines = random.nextInt(random.nextBoolean() ? 12 : 34);
        for (int i = 0; i < lines; i++) {
            addLine();
        }
        for (int i = 0; i < 3; i++) {
            change(4);
        }
        for (int i = 0; i < lines * 3 && calls < 250; i++) {
            change(5);
        }
    }

    private void step() {
        int kind = random.nextInt(100);
        if (kind < 22) {
            change(random.nextInt(14));
        } else if (kind < 26) {
            change(14 + random.nextInt(4));
        } else if (kind < 70) {
            askAboutRelays(random.nextInt(9));
        } else {
            askRest(random.nextInt(9));
        }
    }

    private void addLine() {
        int from = random.nextInt(3) == 0 ? 0 : aRelay();
        int to = aRelay();
        if (from > to && random.nextInt(8) != 0) {
            int other = from;
            from = to;
            to = other;
        }
        due("line(" + from + ", " + to + ")", net.line(from, to), model.line(from, to));
    }

    private void change(int which) {
        int line = aLine();
        int is = random.nextInt(20) == 0 ? random.nextInt(5) - 2 : random.nextInt(2);
        switch (which) {
            case 0: case 1: case 2: addLine(); break;
            case 3: changePieces(); break;
            case 4: {
                int relay = aRelay();
                due("end(" + relay + ", " + is + ")", net.end(relay, is), model.end(relay, is));
                break;
            }
            case 5: case 6: case 7: case 8: {
                int i = edge(model.about(line, 2));
                int f = random.nextInt(25) == 0 ? random.nextInt(600) - 200 : random.nextInt(mostFactor + 1);
                due("factor(" + line + ", " + i + ", " + f + ")", net.factor(line, i, f), model.factor(line, i, f));
                break;
            }
            case 9: case 10: due("broken(" + line + ", " + is + ")", net.broken(line, is), model.broken(line, is)); break;
            case 11: due("keep(" + line + ", " + is + ")", net.keep(line, is), model.keep(line, is)); break;
            case 12: case 13: {
                long by = random.nextInt(3) == 0 ? random.nextLong() : 0;
                due("bend(" + line + ", " + by + ")", net.bend(line, by), model.bend(line, by));
                break;
            }
            case 14: due("relay()", net.relay(), model.relay()); break;
            case 15: {
                int s = random.nextInt();
                due("draw(" + s + ")", net.draw(s), model.draw(s));
                break;
            }
            case 16: due("find()", net.find(), model.find()); break;
            default: due("leave()", net.leave(), model.leave()); break;
        }
    }

    private void changePieces() {
        int p = aPiece();
        long bytes = random.nextLong();
        due("piece(" + p + ", " + bytes + ")", net.piece(p, bytes), model.piece(p, bytes));
        int h = random.nextInt(7) - 1;
        due("pieces(" + h + ")", net.pieces(h), model.pieces(h));
    }

    private void askAboutRelays(int which) {
        int relay = aRelay();
        int p = aPiece();
        int q = aPiece();
        int i = random.nextInt(10) == 0 ? -1 : edge(4);
        String at = "(" + relay + ", " + p + ", " + q + ", " + i + ")";
        switch (which) {
            case 0: due("flow" + at, net.flow(relay), model.flow(relay)); break;
            case 1: due("cut" + at, net.cut(relay, i), model.cut(relay, i)); break;
            case 2: due("rank" + at, net.rank(relay), model.rank(relay)); break;
            case 3: due("fresh" + at, net.fresh(relay, i), model.fresh(relay, i)); break;
            case 4: due("solves" + at, net.solves(relay, p), model.solves(relay, p)); break;
            case 5: due("key" + at, net.key(relay, p, i), model.key(relay, p, i)); break;
            case 6: due("gets" + at, net.gets(relay, p), model.gets(relay, p)); break;
            default: due("lack" + at, net.lack(relay, p, q), model.lack(relay, p, q)); break;
        }
    }

    private void askRest(int which) {
        int line = aLine();
        int p = aPiece();
        int what = edge(7);
        switch (which) {
            case 0: due("rate()", net.rate(), model.rate()); break;
            case 1: due("vector(" + line + ", " + p + ")", net.vector(line, p), model.vector(line, p)); break;
            case 2: due("carries(" + line + ")", net.carries(line), model.carries(line)); break;
            case 3: due("wrong()", net.wrong(), model.wrong()); break;
            case 4: due("left()", net.left(), model.left()); break;
            case 5: due("count(" + what + ")", net.count(what), model.count(what)); break;
            case 6: due("about(" + line + ", " + what + ")", net.about(line, what), model.about(line, what)); break;
            case 7: {
                int a = edge(256);
                int b = edge(256);
                due("times(" + a + ", " + b + ")", net.times(a, b), model.times(a, b));
                due("inverse(" + a + ")", net.inverse(a), model.inverse(a));
                break;
            }
            default: askBreaks(); break;
        }
    }

    private void askBreaks() {
        int k = edge(3);
        int r = edge(model.pieces.length + 1);
        int what = edge(3);
        due("breaks(" + k + ", " + r + ", " + what + ")", net.breaks(k, r, what), model.breaks(k, r, what));
        due("safe(" + k + ", " + r + ")", net.safe(k, r), model.safe(k, r));
    }

    private int aRelay() {
        return edge(model.relays);
    }

    private int aLine() {
        return edge(model.lines.size());
    }

    private int aPiece() {
        return edge(model.pieces.length);
    }

    /** Mostly a number from 0 on below the bound, now and then one just beyond, or far. */
    private int edge(int bound) {
        int kind = random.nextInt(40);
        if (kind == 0 || bound <= 0) {
            int[] beyond = {-1, bound, bound + 1, Integer.MIN_VALUE, Integer.MAX_VALUE};
            return beyond[random.nextInt(beyond.length)];
        }
        return random.nextInt(bound);
    }
}
