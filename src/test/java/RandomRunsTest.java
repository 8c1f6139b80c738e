import java.util.Random;

/**
 * Runs of calls by chance (the same ones each time), each answer compared with the Oracle's.
 * A number as the first argument asks for that many times as many runs.
 */
public final class RandomRunsTest {
    private static final int RUNS = 60, EXTREME_RUNS = 20, CALLS = 512;
    private static final int[] EXTREMES = {
        Integer.MIN_VALUE, Integer.MIN_VALUE + 1, -61, -2, -1, 0, 1, 2, 3, 4, 5, 7, 8, 9, 15, 16, 31, 32, 33, 39, 40, 41,
        59, 60, 61, 98, 99, 100, 255, 256, 399, 400, 401, 599, 600, 601, 5998, 5999, 6000,
        Integer.MAX_VALUE - 1, Integer.MAX_VALUE
    };

    private final Random random;
    private final boolean extreme;
    private final PeriodGates x = new PeriodGates();
    private final Oracle o = new Oracle();
    private long got;
    private long want;
    private int promise;
    private String call;

    private RandomRunsTest(long seed, boolean extreme) {
        this.random = new Random(seed);
        this.extreme = extreme;
    }

    public static void main(String[] args) {
        int times = args.length == 0 ? 1 : Integer.parseInt(args[0]);
        int runs = times * (RUNS + EXTREME_RUNS);
        for (int run = 0; run < runs; run++) {
            new RandomRunsTest(run, run % (RUNS + EXTREME_RUNS) >= RUNS).go(run);
        }
        Check.end("RandomRunsTest");
    }

    private void go(int run) {
        // Some runs change little and look a lot; some never cut, some never clear.
        int[] pool = random.nextInt(3) == 0 ? CHANGES : ALL;
        for (int n = 1; n < CALLS; n++) {
            int act = random.nextInt(4) == 0 ? pool[random.nextInt(pool.length)] : 2 + random.nextInt(39);
            if ((act == 5 || act == 4 || act == 6) && random.nextInt(4) != 0) {
                act = 3;
            }
            ask(act);
            Check.due(promise, "run " + run + ", call " + n + ": " + call, got, want);
        }
        Check.due(41, "run " + run + ": digest() at its end", x.digest(), o.digest());
    }

    private static final int[] ALL = {2, 2, 2, 3, 3, 6, 7, 8, 13, 14, 16, 17, 21, 21, 32, 34, 34, 35, 37, 38, 41};
    private static final int[] CHANGES = {2, 2, 2, 2, 3, 3, 3, 7, 8, 16, 17, 21, 38, 41};

    /** A number from a to b, now and then one beside them. */
    private int from(int a, int b) {
        if (extreme && random.nextInt(3) == 0) {
            return EXTREMES[random.nextInt(EXTREMES.length)];
        }
        return random.nextInt(25) == 0 ? (random.nextBoolean() ? a - 1 : b + 1) : a + random.nextInt(b - a + 1);
    }

    private int edgeNumber() {
        return from(0, Math.max(0, x.count(0) - 1));
    }

    private void told(int number, String name, long mine, long due, int... arguments) {
        promise = number;
        StringBuilder words = new StringBuilder(name).append('(');
        for (int k = 0; k < arguments.length; k++) {
            words.append(k == 0 ? "" : ", ").append(arguments[k]);
        }
        call = words.append(')').toString();
        got = mine;
        want = due;
    }

    private void ask(int act) {
        if (act <= 12) {
            askEdgesAndBins(act);
        } else if (act <= 20) {
            askHowSeen(act);
        } else if (act <= 31) {
            askGatesAndAll(act);
        } else {
            askSheets(act);
        }
    }

    private void askEdgesAndBins(int act) {
        int a;
        int b;
        int c;
        switch (act) {
            case 2: a = random.nextInt(3) == 0 ? from(0, 5999) : from(0, 400); told(2, "edge", x.edge(a), o.edge(a), a); break;
            case 3: a = from(0, 900); b = from(1, random.nextBoolean() ? 600 : 70); c = from(1, 32);
                told(3, "edges", x.edges(a, b, c), o.edges(a, b, c), a, b, c); break;
            case 4: a = edgeNumber(); told(4, "gone", x.gone(a), o.gone(a), a); break;
            case 5: told(5, "clear", x.clear(), o.clear()); break;
            case 6: a = from(1, 59); told(6, "cut", x.cut(a), o.cut(a), a); break;
            case 7: a = from(0, 59); b = random.nextInt(3) == 0 ? from(1, 99) : from(1, 9);
                told(7, "hit", x.hit(a, b), o.hit(a, b), a, b); break;
            case 8: a = from(1, 59); b = random.nextInt(3) == 0 ? from(1, 400) : from(1, 30);
                told(8, "sweep", x.sweep(a, b), o.sweep(a, b), a, b); break;
            case 9: told(9, "fresh", x.fresh(), o.fresh()); break;
            case 10: a = from(0, 11); b = from(0, 2); told(10, "bin", x.bin(a, b), o.bin(a, b), a, b); break;
            case 11: a = from(0, 11); b = from(0, 1); told(11, "dense", x.dense(a, b), o.dense(a, b), a, b); break;
            default: told(12, "worst", x.worst(), o.worst()); break;
        }
    }

    private void askHowSeen(int act) {
        int a;
        int b;
        switch (act) {
            case 13: askType(); break;
            case 14: told(14, "wipe", x.wipe(), o.wipe()); break;
            case 15: told(15, "mode", x.mode(), o.mode()); break;
            case 16: a = random.nextInt(3) == 0 ? 0 : from(0, 600); told(16, "nominal", x.nominal(a), o.nominal(a), a); break;
            case 17: a = from(0, 1); told(17, "mend", x.mend(a), o.mend(a), a); break;
            case 18: a = edgeNumber(); b = from(0, 7); told(18, "seen", x.seen(a, b), o.seen(a, b), a, b); break;
            case 19: a = edgeNumber(); b = from(0, 1); told(19, "stamp", x.stamp(a, b), o.stamp(a, b), a, b); break;
            default: a = from(0, 1); told(20, "reference", x.reference(a), o.reference(a), a); break;
        }
    }

    private void askType() {
        if (random.nextInt(5) == 0) {
            int a = from(0, 255);
            told(13, "type", x.type(a), o.type(a), a);
            return;
        }
        String name = new String[] {"known", "dense", "line", "densa"}[random.nextInt(4)];
        Check.due(14, "wipe()", x.wipe(), o.wipe());
        for (int k = 0; k < name.length(); k++) {
            int a = name.charAt(k);
            told(13, "type", x.type(a), o.type(a), a);
        }
    }

    private void askGatesAndAll(int act) {
        int a;
        int b;
        int c;
        switch (act) {
            case 21: a = from(0, 900); b = a + from(0, 900); told(21, "gate", x.gate(a, b), o.gate(a, b), a, b); break;
            case 22: if (random.nextInt(3) == 0) { told(22, "back", x.back(), o.back()); } else { ask(25); } break;
            case 23: a = from(0, 7); b = from(0, 2); told(23, "where", x.where(a, b), o.where(a, b), a, b); break;
            case 24: a = from(0, 7); b = from(0, 3); c = from(0, 1);
                told(24, "frequency", x.frequency(a, b, c), o.frequency(a, b, c), a, b, c); break;
            case 25: a = from(0, 7); told(25, "closing", x.closing(a), o.closing(a), a); break;
            case 26: a = random.nextBoolean() ? from(1, 99) : from(1, 8); b = from(0, 6); c = from(0, 4);
                told(26, "chain", x.chain(a, b, c), o.chain(a, b, c), a, b, c); break;
            case 27: a = edgeNumber(); b = edgeNumber(); c = from(0, 1);
                told(27, "fit", x.fit(a, b, c), o.fit(a, b, c), a, b, c); break;
            case 28: a = edgeNumber(); b = edgeNumber(); told(28, "off", x.off(a, b), o.off(a, b), a, b); break;
            case 29: a = from(3, 32); b = from(0, 1); told(29, "gain", x.gain(a, b), o.gain(a, b), a, b); break;
            case 30: a = from(1, 15); b = from(0, 1); told(30, "variance", x.variance(a, b), o.variance(a, b), a, b); break;
            default: a = from(0, 14); told(31, "rank", x.rank(a), o.rank(a), a); break;
        }
    }

    private void askSheets(int act) {
        int s = from(0, 3);
        int a;
        int b;
        int c;
        int d;
        switch (act) {
            case 32: a = from(0, 3); b = random.nextInt(3) == 0 ? from(0, 40) : from(0, 18);
                told(32, "sheet", x.sheet(s, a, b), o.sheet(s, a, b), s, a, b); break;
            case 33: if (random.nextInt(4) == 0) { told(33, "lose", x.lose(s), o.lose(s), s); } else { ask(32); } break;
            case 34: a = from(0, 3); b = from(0, 15); c = random.nextBoolean() ? from(-20, 20) : random.nextInt();
                told(34, "put", x.put(s, a, b, c), o.put(s, a, b, c), s, a, b, c); break;
            case 35: a = from(0, 15); told(35, "blank", x.blank(s, a), o.blank(s, a), s, a); break;
            case 36: a = from(0, 15); told(36, "get", x.get(s, a), o.get(s, a), s, a); break;
            case 37: a = from(0, 12); b = random.nextBoolean() ? s : from(0, 3); c = from(0, 12); d = from(0, 8);
                told(37, "copy", x.copy(s, a, b, c, d), o.copy(s, a, b, c, d), s, a, b, c, d); break;
            case 38: told(38, "write", x.write(s), o.write(s), s); break;
            case 39: a = from(0, 2); told(39, "found", x.found(s, a), o.found(s, a), s, a); break;
            case 40: a = from(0, 8); told(40, "count", x.count(a), o.count(a), a); break;
            default: told(41, "digest", x.digest(), o.digest()); break;
        }
    }
}
