/** Promises 1 to 12, each sentence at its boundaries. */
public final class BoundaryEdgesTest {
    private static final int LEAST = Integer.MIN_VALUE, MOST = Integer.MAX_VALUE;

    public static void main(String[] args) {
        newObject();
        edge();
        edges();
        edgesUpTo();
        gone();
        clear();
        cut();
        hit();
        sweep();
        fresh();
        bin();
        dense();
        worst();
        Sentences.end("BoundaryEdgesTest", 1, 12);
    }

    private static void due(String call, long got, long want) {
        Sentences.due(call, got, want);
    }

    private static void timesAre(PeriodGates x, int... times) {
        due("count(0)", x.count(0), times.length);
        for (int i = 0; i < times.length; i++) {
            due("seen(" + i + ", 0)", x.seen(i, 0), times[i]);
        }
    }

    private static void newObject() {
        Sentences.of(1, "No EDGES, no CUTS, no HITS, no MODE, no GATES;");
        PeriodGates x = new PeriodGates();
        due("count(0)", x.count(0), 0);
        due("count(1)", x.count(1), 1);
        due("count(2)", x.count(2), 0);
        due("count(3)", x.count(3), 0);
        due("count(7)", x.count(7), 0);
        due("clear()", x.clear(), 0);
        due("fresh()", x.fresh(), 0);
        due("wipe()", x.wipe(), 0);
        due("back()", x.back(), Check.NOT);
        Sentences.of(1, "NOMINAL and MEND 0;");
        due("nominal(0)", x.nominal(0), 0);
        due("mend(0)", x.mend(0), 0);
        Sentences.of(1, "all SHEETS are LOST.");
        due("count(8)", x.count(8), 0);
        for (int s = 0; s < 4; s++) {
            due("lose(" + s + ")", new PeriodGates().lose(s), Check.NULL);
        }
    }

    private static void edge() {
        Sentences.of(2, "An EDGE at a TIME: its number.");
        PeriodGates x = new PeriodGates();
        due("edge(3000), the only one", x.edge(3000), 0);
        due("edge(0), ahead of all", x.edge(0), 0);
        due("edge(5999), behind all", x.edge(5999), 2);
        due("edge(1), between", x.edge(1), 1);
        timesAre(x, 0, 1, 3000, 5999);
        Sentences.of(2, "BAD");
        for (int time : new int[] {-1, 6000, LEAST, MOST}) {
            due("edge(" + time + ")", x.edge(time), Check.BAD);
        }
        timesAre(x, 0, 1, 3000, 5999);
        Sentences.of(2, "NOT: there is one");
        due("edge(0)", x.edge(0), Check.NOT);
        due("edge(5999)", x.edge(5999), Check.NOT);
        x.edges(10, 1, 28);
        due("edge(10), there are 32", x.edge(10), Check.NOT);
        Sentences.of(2, "FULL");
        due("edge(2)", x.edge(2), Check.FULL);
        due("edge(5998)", x.edge(5998), Check.FULL);
        due("count(0)", x.count(0), 32);
        x.gone(31);
        due("edge(5998), there is room", x.edge(5998), 31);
        due("edge(5999), there is none", x.edge(5999), Check.FULL);
    }

    private static void edges() {
        Sentences.of(3, "Edges by a row: at a, a and d, and so on, n (1 to 32), d 1 to 600,");
        PeriodGates x = new PeriodGates();
        due("edges(5, 600, 1)", x.edges(5, 600, 1), 1);
        timesAre(x, 5);
        due("edges(6, 600, 2)", x.edges(6, 600, 2), 2);
        timesAre(x, 5, 6, 606);
        due("edges(7, 1, 3)", x.edges(7, 1, 3), 3);
        timesAre(x, 5, 6, 7, 8, 9, 606);
        PeriodGates y = new PeriodGates();
        due("edges(0, 1, 32)", y.edges(0, 1, 32), 32);
        due("seen(31, 0)", y.seen(31, 0), 31);
        PeriodGates z = new PeriodGates();
        due("edges(0, 193, 32)", z.edges(0, 193, 32), 32);
        due("seen(31, 0)", z.seen(31, 0), 5983);
        Sentences.of(3, "BAD (a too)");
        int[][] bad = {
            {-1, 1, 1}, {6000, 1, 1}, {LEAST, 1, 1}, {MOST, 1, 1}, {0, 0, 1}, {0, 601, 1}, {0, -1, 1}, {0, LEAST, 1},
            {0, MOST, 1}, {0, 1, 0}, {0, 1, 33}, {0, 1, -1}, {0, 1, LEAST}, {0, 1, MOST}
        };
        PeriodGates w = new PeriodGates();
        for (int[] b : bad) {
            due("edges(" + b[0] + ", " + b[1] + ", " + b[2] + ")", w.edges(b[0], b[1], b[2]), Check.BAD);
        }
        due("count(0)", w.count(0), 0);
        due("edges(0, 0, 1), there is no room", y.edges(0, 0, 1), Check.BAD);
    }

    private static void edgesUpTo() {
        Sentences.of(3, "as long as there is room, none is there, and TIMES are as told: how many.");
        PeriodGates x = new PeriodGates();
        x.edges(0, 1, 30);
        due("edges(100, 1, 3), room for 2", x.edges(100, 1, 3), 2);
        due("seen(31, 0)", x.seen(31, 0), 101);
        due("edges(200, 1, 1), no room", x.edges(200, 1, 1), 0);
        due("count(0)", x.count(0), 32);
        PeriodGates y = new PeriodGates();
        y.edge(20);
        due("edges(20, 1, 9), one is there at once", y.edges(20, 1, 9), 0);
        due("edges(0, 10, 9), one is there at the third", y.edges(0, 10, 9), 2);
        timesAre(y, 0, 10, 20);
        PeriodGates z = new PeriodGates();
        due("edges(5999, 1, 2)", z.edges(5999, 1, 2), 1);
        due("edges(5399, 600, 2), one is there at the end", z.edges(5399, 600, 2), 1);
        due("edges(5398, 600, 3), up to 5998", z.edges(5398, 600, 3), 2);
        timesAre(z, 5398, 5399, 5998, 5999);
        PeriodGates w = new PeriodGates();
        due("edges(599, 600, 32), up to 5999", w.edges(599, 600, 32), 10);
        due("edges(600, 600, 32), up to 5400", w.edges(600, 600, 32), 9);
    }

    private static void gone() {
        Sentences.of(4, "An EDGE is gone: its TIME.");
        PeriodGates x = new PeriodGates();
        Check.edgesAt(x, 0, 10, 20, 5999);
        due("gone(0), the first", x.gone(0), 0);
        timesAre(x, 10, 20, 5999);
        due("gone(2), the last", x.gone(2), 5999);
        timesAre(x, 10, 20);
        x.edge(15);
        due("gone(1), between", x.gone(1), 15);
        timesAre(x, 10, 20);
        due("gone(1)", x.gone(1), 20);
        due("gone(0), the only one", x.gone(0), 10);
        timesAre(x);
        Sentences.of(4, "BAD");
        due("gone(0), there is none", x.gone(0), Check.BAD);
        x.edges(0, 1, 32);
        for (int i : new int[] {-1, 32, LEAST, MOST}) {
            due("gone(" + i + ")", x.gone(i), Check.BAD);
        }
        due("count(0)", x.count(0), 32);
        due("gone(31), of 32", x.gone(31), 31);
        due("gone(31), of 31", x.gone(31), Check.BAD);
    }

    private static void clear() {
        Sentences.of(5, "There are no EDGES: how many there were.");
        PeriodGates x = new PeriodGates();
        due("clear(), there are none", x.clear(), 0);
        x.edge(5999);
        due("clear(), there is one", x.clear(), 1);
        timesAre(x);
        x.edges(0, 100, 32);
        due("clear(), there are 32", x.clear(), 32);
        timesAre(x);
        due("edge(0), it is there no more", x.edge(0), 0);
        due("edges(1, 1, 32), there is room again", x.edges(1, 1, 32), 31);
    }

    private static void cut() {
        Sentences.of(6, "A CUT comes, or goes: how many BINS there are.");
        PeriodGates x = new PeriodGates();
        due("cut(59) comes", x.cut(59), 2);
        due("cut(1) comes", x.cut(1), 3);
        due("cut(2) comes", x.cut(2), 4);
        due("cut(1) goes", x.cut(1), 3);
        due("bin(1, 0)", x.bin(1, 0), 2);
        due("cut(59) goes", x.cut(59), 2);
        due("cut(2) goes, the only one", x.cut(2), 1);
        due("bin(0, 1)", x.bin(0, 1), 60);
        Sentences.of(6, "BAD");
        for (int fine : new int[] {0, 60, -1, LEAST, MOST}) {
            due("cut(" + fine + ")", x.cut(fine), Check.BAD);
        }
        due("count(1)", x.count(1), 1);
        Sentences.of(6, "FULL: there are 11");
        for (int k = 1; k <= 11; k++) {
            due("cut(" + 5 * k + ")", x.cut(5 * k), k + 1);
        }
        x.hit(0, 7);
        due("cut(59)", x.cut(59), Check.FULL);
        due("cut(1)", x.cut(1), Check.FULL);
        due("cut(0), BAD ahead of FULL", x.cut(0), Check.BAD);
        due("count(1)", x.count(1), 12);
        due("count(2), HITS stay", x.count(2), 7);
        due("cut(55) goes", x.cut(55), 11);
        due("cut(59) comes", x.cut(59), 12);
        for (int b = 0; b < 12; b++) {
            due("bin(" + b + ", 0)", x.bin(b, 0), b == 11 ? 59 : 5 * b);
        }
    }

    private static void hit() {
        Sentences.of(7, "A FINE (0 to 59) is hit n times (1 to 99): HITS of its BIN.");
        PeriodGates x = new PeriodGates();
        x.cut(1);
        x.cut(59);
        due("hit(0, 1)", x.hit(0, 1), 1);
        due("hit(1, 99)", x.hit(1, 99), 99);
        due("hit(58, 1)", x.hit(58, 1), 100);
        due("hit(59, 1)", x.hit(59, 1), 1);
        due("hit(0, 1)", x.hit(0, 1), 2);
        Sentences.of(7, "BAD");
        int[][] bad = {
            {-1, 1}, {60, 1}, {LEAST, 1}, {MOST, 1}, {0, 0}, {0, 100}, {0, -1}, {0, LEAST}, {0, MOST}
        };
        for (int[] b : bad) {
            due("hit(" + b[0] + ", " + b[1] + ")", x.hit(b[0], b[1]), Check.BAD);
        }
        due("count(2)", x.count(2), 103);
        Sentences.of(7, "FULL: they would be too many");
        x.sweep(59, 199);
        due("hit(0, 99), they would be 401", x.hit(0, 99), Check.FULL);
        due("hit(0, 100), BAD ahead of FULL", x.hit(0, 100), Check.BAD);
        due("count(2)", x.count(2), 302);
        due("hit(59, 98), they are 400", x.hit(59, 98), 103);
        due("count(2)", x.count(2), 400);
        due("hit(59, 1)", x.hit(59, 1), Check.FULL);
        due("count(2)", x.count(2), 400);
    }

    private static void sweep() {
        Sentences.of(8, "FINES 0, d, 2 d and so on, modulo 60, n (1 to 400) of them (d 1 to 59) are hit once each:"
            + " HITS all together.");
        PeriodGates x = new PeriodGates();
        x.cut(1);
        x.cut(59);
        due("sweep(59, 1): 0", x.sweep(59, 1), 1);
        due("bin(0, 2)", x.bin(0, 2), 1);
        due("sweep(59, 2): 0, 59", x.sweep(59, 2), 3);
        due("bin(2, 2)", x.bin(2, 2), 1);
        due("sweep(30, 3): 0, 30, 0", x.sweep(30, 3), 6);
        due("bin(0, 2)", x.bin(0, 2), 4);
        due("bin(1, 2)", x.bin(1, 2), 1);
        due("sweep(1, 61): each once, 0 twice", x.sweep(1, 61), 67);
        due("bin(0, 2)", x.bin(0, 2), 6);
        due("bin(1, 2)", x.bin(1, 2), 59);
        due("bin(2, 2)", x.bin(2, 2), 2);
        x.fresh();
        due("sweep(59, 400): 0, 59 to 1, six times, and 40 more", x.sweep(59, 400), 400);
        due("bin(0, 2)", x.bin(0, 2), 7);
        due("bin(1, 2)", x.bin(1, 2), 386);
        due("bin(2, 2)", x.bin(2, 2), 7);
        Sentences.of(8, "BAD");
        x.fresh();
        int[][] bad = {
            {0, 1}, {60, 1}, {-1, 1}, {LEAST, 1}, {MOST, 1}, {1, 0}, {1, 401}, {1, -1}, {1, LEAST}, {1, MOST}
        };
        for (int[] b : bad) {
            due("sweep(" + b[0] + ", " + b[1] + ")", x.sweep(b[0], b[1]), Check.BAD);
        }
        due("count(2)", x.count(2), 0);
        Sentences.of(8, "FULL: they would be too many");
        due("sweep(1, 1)", x.sweep(1, 1), 1);
        due("sweep(1, 400)", x.sweep(1, 400), Check.FULL);
        due("sweep(1, 401), BAD ahead of FULL", x.sweep(1, 401), Check.BAD);
        due("sweep(60, 400), BAD ahead of FULL", x.sweep(60, 400), Check.BAD);
        due("count(2)", x.count(2), 1);
        due("sweep(1, 399)", x.sweep(1, 399), 400);
        due("sweep(1, 1)", x.sweep(1, 1), Check.FULL);
    }

    private static void fresh() {
        Sentences.of(9, "There are no HITS: how many there were.");
        PeriodGates x = new PeriodGates();
        due("fresh(), there are none", x.fresh(), 0);
        for (int k = 1; k <= 11; k++) {
            x.cut(5 * k);
        }
        x.sweep(1, 400);
        due("fresh(), there are 400", x.fresh(), 400);
        for (int b = 0; b < 12; b++) {
            due("bin(" + b + ", 2)", x.bin(b, 2), 0);
        }
        due("count(2)", x.count(2), 0);
        due("count(1), BINS stay", x.count(1), 12);
        due("sweep(1, 400), there is room again", x.sweep(1, 400), 400);
    }

    private static void bin() {
        Sentences.of(10, "Of a BIN the least FINE (what = 0), WIDTH (1), HITS (2).");
        PeriodGates x = new PeriodGates();
        x.hit(59, 3);
        int[] whole = {0, 60, 3};
        for (int what = 0; what <= 2; what++) {
            due("bin(0, " + what + "), one BIN", x.bin(0, what), whole[what]);
        }
        for (int k = 49; k <= 59; k++) {
            x.cut(k);
        }
        x.hit(48, 2);
        x.hit(59, 4);
        int[][] rows = {{0, 49, 2}, {49, 1, 0}, {59, 1, 4}};
        int[] bins = {0, 1, 11};
        for (int k = 0; k < bins.length; k++) {
            for (int what = 0; what <= 2; what++) {
                due("bin(" + bins[k] + ", " + what + ")", x.bin(bins[k], what), rows[k][what]);
            }
        }
        Sentences.of(10, "BAD");
        int[][] bad = {{-1, 0}, {12, 0}, {LEAST, 0}, {MOST, 0}, {0, -1}, {0, 3}, {0, LEAST}, {0, MOST}};
        for (int[] b : bad) {
            due("bin(" + b[0] + ", " + b[1] + ")", x.bin(b[0], b[1]), Check.BAD);
        }
        due("bin(1, 0), one BIN", new PeriodGates().bin(1, 0), Check.BAD);
    }

    private static void dense() {
        Sentences.of(11, "DENSE WIDTH: above (what = 0), below (1).");
        PeriodGates x = new PeriodGates();
        x.hit(0, 1);
        due("dense(0, 0), one BIN", x.dense(0, 0), 60);
        due("dense(0, 1), one BIN", x.dense(0, 1), 1);
        x.cut(59);
        x.hit(0, 1);
        due("dense(0, 0), all HITS", x.dense(0, 0), 60);
        due("dense(0, 1), all HITS", x.dense(0, 1), 1);
        due("dense(1, 0), no HITS of it", x.dense(1, 0), 0);
        due("dense(1, 1), no HITS of it", x.dense(1, 1), 1);
        x.sweep(1, 59);
        x.sweep(1, 59);
        x.hit(59, 1);
        // BIN 0 has 119 of 120, then 399 of 400.
        due("dense(1, 0), 60 by 120", x.dense(1, 0), 1);
        due("dense(1, 1), 60 by 120", x.dense(1, 1), 2);
        for (int k = 0; k < 4; k++) {
            x.hit(0, 70);
        }
        due("dense(0, 0), 60 times 399 by 400", x.dense(0, 0), 1197);
        due("dense(0, 1), 60 times 399 by 400", x.dense(0, 1), 20);
        Sentences.of(11, "BAD");
        long bad = Check.far(Check.BAD);
        int[][] wrong = {{-1, 0}, {2, 0}, {LEAST, 0}, {MOST, 0}, {0, -1}, {0, 2}, {0, LEAST}, {0, MOST}};
        for (int[] w : wrong) {
            due("dense(" + w[0] + ", " + w[1] + ")", x.dense(w[0], w[1]), bad);
        }
        Sentences.of(11, "NOT: there are no HITS");
        x.fresh();
        due("dense(0, 0)", x.dense(0, 0), Check.far(Check.NOT));
        due("dense(1, 1)", x.dense(1, 1), Check.far(Check.NOT));
        due("dense(2, 0), BAD ahead of NOT", x.dense(2, 0), bad);
        due("dense(0, 2), BAD ahead of NOT", x.dense(0, 2), bad);
    }

    private static void worst() {
        Sentences.of(12, "WORST.");
        PeriodGates x = new PeriodGates();
        x.hit(0, 1);
        due("worst(), one BIN", x.worst(), 0);
        for (int k = 1; k <= 11; k++) {
            x.cut(5 * k);
        }
        x.sweep(1, 60);
        due("worst(), 12 alike", x.worst(), 0);
        x.hit(59, 1);
        due("worst(), the last of 12", x.worst(), 11);
        Sentences.of(12, "NOT: there are no HITS");
        x.fresh();
        due("worst()", x.worst(), Check.NOT);
        due("worst() of a new object", new PeriodGates().worst(), Check.NOT);
    }
}
