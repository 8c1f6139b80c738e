import java.util.Random;

/**
 * States as a signal makes them (steady with jitter and lost edges, wide, crowded), over all TIMES, with as many
 * CUTS, HITS and GATES as there may be: what can be asked of each, compared with the Oracle's answers.
 * A number as the first argument asks for that many times as many states.
 */
public final class WholeStatesTest {
    private static final int STATES = 12;

    private final Random random;
    private final String name;
    private final PeriodGates x = new PeriodGates();
    private final Oracle o = new Oracle();

    private WholeStatesTest(int seed) {
        random = new Random(7919L * seed);
        name = "state " + seed + ": ";
    }

    public static void main(String[] args) {
        int times = args.length == 0 ? 1 : Integer.parseInt(args[0]);
        for (int seed = 0; seed < times * STATES; seed++) {
            WholeStatesTest state = new WholeStatesTest(seed);
            state.cuts();
            state.hits();
            state.modes(seed % 3);
            state.edges(seed % 4);
            state.gates();
            for (int mend = 0; mend <= 1; mend++) {
                state.mended(mend);
            }
        }
        Check.end("WholeStatesTest");
    }

    private void due(int promise, String call, long got, long want) {
        Check.due(promise, name + call, got, want);
    }

    private void cuts() {
        for (int k = random.nextInt(14); k > 0; k--) {
            int fine = 1 + random.nextInt(59);
            due(6, "cut(" + fine + ")", x.cut(fine), o.cut(fine));
        }
    }

    /** None at all, like ones, or only some BINS, so that others have none. */
    private void hits() {
        int style = random.nextInt(3);
        if (style == 1) {
            int d = 1 + random.nextInt(59);
            int n = 1 + random.nextInt(400);
            due(8, "sweep(" + d + ", " + n + ")", x.sweep(d, n), o.sweep(d, n));
        }
        for (int k = style == 2 ? 8 : 0; k > 0; k--) {
            int fine = random.nextInt(60);
            int n = 1 + random.nextInt(99);
            due(7, "hit(" + fine + ", " + n + ")", x.hit(fine, n), o.hit(fine, n));
        }
    }

    private void modes(int which) {
        String text = new String[] {"dense", "known", "line"}[which];
        for (int k = 0; k < text.length(); k++) {
            int b = text.charAt(k);
            due(13, "type(" + b + ")", x.type(b), o.type(b));
        }
    }

    private void edges(int style) {
        int period = 1 + random.nextInt(style == 2 ? 5 : 180);
        int jitter = 1 + random.nextInt(1 + period / 3);
        int start = random.nextInt(6000);
        for (int k = 0; k < 34; k++) {
            int time = random.nextInt(6000);
            if (style == 1) {
                time = k * period + random.nextInt(jitter);
            } else if (style >= 2) {
                time = (start + k * period + (random.nextInt(12) == 0 ? 9 * period : 0)) % 6000;
            }
            due(2, "edge(" + time + ")", x.edge(time), o.edge(time));
        }
        for (int k = random.nextInt(5); k > 0; k--) {
            int i = random.nextInt(Math.max(1, x.count(0)));
            due(4, "gone(" + i + ")", x.gone(i), o.gone(i));
        }
    }

    private void gates() {
        for (int g = 0; g < 9; g++) {
            int a = random.nextInt(5999);
            int b = a + 1 + random.nextInt(random.nextBoolean() ? 5999 - a : Math.min(300, 5999 - a));
            due(21, "gate(" + a + ", " + b + ")", x.gate(a, b), o.gate(a, b));
        }
    }

    private void mended(int mend) {
        due(17, "mend(" + mend + ")", x.mend(mend), o.mend(mend));
        int[] nominals = {0, 1, 2 + random.nextInt(200), 600};
        for (int p : nominals) {
            due(16, "nominal(" + p + ")", x.nominal(p), o.nominal(p));
            due(41, "digest(), MEND " + mend + ", NOMINAL " + p, x.digest(), o.digest());
            for (int k = 0; k < 5; k++) {
                askPair();
                askChain();
            }
        }
        due(32, "sheet(0, 3, 18)", x.sheet(0, 3, 18), o.sheet(0, 3, 18));
        due(38, "write(0)", x.write(0), o.write(0));
        for (int i = 0; i < 18; i++) {
            due(36, "get(0, " + i + ")", x.get(0, i), o.get(0, i));
        }
        for (int what = 0; what <= 2; what++) {
            due(39, "found(0, " + what + ")", x.found(0, what), o.found(0, what));
        }
    }

    private void askPair() {
        int i = random.nextInt(20);
        int j = i + 1 + random.nextInt(12);
        String pair = "(" + i + ", " + j;
        for (int what = 0; what <= 1; what++) {
            due(27, "fit" + pair + ", " + what + ")", x.fit(i, j, what), o.fit(i, j, what));
        }
        due(28, "off" + pair + ")", x.off(i, j), o.off(i, j));
    }

    private void askChain() {
        int g = 1 + random.nextInt(random.nextBoolean() ? 99 : 9);
        int k = random.nextInt(8);
        for (int what = 0; what <= 4; what++) {
            due(26, "chain(" + g + ", " + k + ", " + what + ")", x.chain(g, k, what), o.chain(g, k, what));
        }
    }
}
