/** Promises 21 to 31, each sentence at its boundaries. */
public final class BoundaryGatesTest {
    private static final int LEAST = Integer.MIN_VALUE, MOST = Integer.MAX_VALUE;

    public static void main(String[] args) {
        gate();
        back();
        where();
        frequency();
        frequencyNot();
        closing();
        chain();
        chainOfAll();
        fit();
        off();
        gain();
        variance();
        rank();
        Sentences.end("BoundaryGatesTest", 21, 31);
    }

    private static void due(String call, long got, long want) {
        Sentences.due(call, got, want);
    }

    private static PeriodGates withRow(int d, int n) {
        PeriodGates x = new PeriodGates();
        x.edges(0, d, n);
        return x;
    }

    private static void gate() {
        Sentences.of(21, "A GATE more: its number.");
        PeriodGates x = new PeriodGates();
        due("gate(0, 1)", x.gate(0, 1), 0);
        due("gate(5998, 5999)", x.gate(5998, 5999), 1);
        due("gate(0, 5999)", x.gate(0, 5999), 2);
        due("gate(0, 1), the same once more", x.gate(0, 1), 3);
        due("count(3)", x.count(3), 4);
        Sentences.of(21, "BAD");
        int[][] bad = {
            {-1, 1}, {LEAST, 1}, {0, 0}, {5999, 5999}, {1, 0}, {0, -1}, {0, 6000}, {0, MOST}, {0, LEAST}, {5999, 6000},
            {6000, 6001}, {MOST, LEAST}, {MOST, MOST}
        };
        for (int[] b : bad) {
            due("gate(" + b[0] + ", " + b[1] + ")", x.gate(b[0], b[1]), Check.BAD);
        }
        due("count(3)", x.count(3), 4);
        Sentences.of(21, "FULL");
        for (int g = 4; g < 8; g++) {
            due("gate(" + g + ", 9)", x.gate(g, 9), g);
        }
        due("gate(0, 1), there are 8", x.gate(0, 1), Check.FULL);
        due("gate(0, 0), BAD ahead of FULL", x.gate(0, 0), Check.BAD);
        due("count(3)", x.count(3), 8);
        x.back();
        due("gate(0, 1), there is room", x.gate(0, 1), 7);
    }

    private static void back() {
        Sentences.of(22, "The last GATE is gone: how many are left.");
        PeriodGates x = Check.withEdges(0, 100, 200);
        x.gate(0, 100);
        due("back(), the only one", x.back(), 0);
        x.gate(0, 200);
        for (int g = 1; g < 8; g++) {
            x.gate(1, 2);
        }
        due("back(), there are 8", x.back(), 7);
        due("where(7, 0)", x.where(7, 0), Check.BAD);
        for (int left = 6; left >= 1; left--) {
            due("back()", x.back(), left);
        }
        due("where(0, 1), the first is left", x.where(0, 1), 2);
        due("back()", x.back(), 0);
        Sentences.of(22, "NOT: there is none.");
        due("back()", x.back(), Check.NOT);
        due("back(), new", new PeriodGates().back(), Check.NOT);
        due("gate(0, 1)", x.gate(0, 1), 0);
    }

    private static void where() {
        Sentences.of(23, "Of a GATE the EDGE where it OPENS (what = 0; NONE), where it CLOSES (1; NONE), PERIODS (2; NONE: it"
            + " does not CLOSE).");
        PeriodGates x = Check.withEdges(10, 20, 5999);
        int[][] rows = {
            // A, B, OPENS, CLOSES, PERIODS
            {10, 20, 0, 1, 1}, {10, 21, 0, 2, 2}, {9, 10, 0, -1, -1}, {11, 20, 1, -1, -1}, {11, 21, 1, 2, 1},
            {20, 5999, 1, 2, 1}, {21, 5999, 2, -1, -1}, {0, 5999, 0, 2, 2}
        };
        for (int g = 0; g < rows.length; g++) {
            x.gate(rows[g][0], rows[g][1]);
            for (int what = 0; what <= 2; what++) {
                due("where(" + g + ", " + what + ")", x.where(g, what), rows[g][2 + what]);
            }
        }
        x.gone(2);
        int[][] anew = {
            {0, 1, 1}, {0, -1, -1}, {0, -1, -1}, {1, -1, -1}, {1, -1, -1}, {1, -1, -1}, {-1, -1, -1}, {0, -1, -1}
        };
        for (int g = 0; g < rows.length; g++) {
            for (int what = 0; what <= 2; what++) {
                due("where(" + g + ", " + what + "), the last EDGE is gone", x.where(g, what), anew[g][what]);
            }
        }
        PeriodGates y = withRow(180, 32);
        y.nominal(1);
        y.mend(1);
        y.gate(0, 5580);
        due("where(0, 1), 32 EDGES", y.where(0, 1), 31);
        due("where(0, 2), as many PERIODS as there can be", y.where(0, 2), 310);
        Sentences.of(23, "BAD.");
        int[][] bad = {{-1, 0}, {8, 0}, {LEAST, 0}, {MOST, 0}, {0, -1}, {0, 3}, {0, LEAST}, {0, MOST}};
        for (int[] b : bad) {
            due("where(" + b[0] + ", " + b[1] + ")", x.where(b[0], b[1]), Check.BAD);
        }
        due("where(0, 0), no GATES", new PeriodGates().where(0, 0), Check.BAD);
    }

    private static void frequencyIs(PeriodGates x, int of, long above, long below) {
        due("frequency(0, " + of + ", 0)", x.frequency(0, of, 0), above);
        due("frequency(0, " + of + ", 1)", x.frequency(0, of, 1), below);
    }

    private static void frequency() {
        Sentences.of(24, "FREQUENCY (of = 0), LEAST (1), MOST (2), TRUTH (3): above, below.");
        PeriodGates x = Check.withEdges(0, 59, 5940, 5999);
        x.gate(0, 5999);
        frequencyIs(x, 0, 1, 1980);
        frequencyIs(x, 1, 3, 5999);
        frequencyIs(x, 2, 3, 5881);
        frequencyIs(x, 3, 3, 5999);
        x.cut(59);
        // STAMPS 15 and 5985; BOUNDS 0 to 58, and 5999 alone.
        frequencyIs(x, 0, 1, 1990);
        frequencyIs(x, 1, 3, 5999);
        frequencyIs(x, 2, 3, 5941);
        Sentences.of(24, "BAD");
        long bad = Check.far(Check.BAD);
        int[][] wrong = {
            {-1, 0, 0}, {1, 0, 0}, {LEAST, 0, 0}, {MOST, 0, 0}, {0, -1, 0}, {0, 4, 0}, {0, LEAST, 0}, {0, MOST, 0},
            {0, 0, -1}, {0, 0, 2}, {0, 0, LEAST}, {0, 0, MOST}
        };
        for (int[] w : wrong) {
            due("frequency(" + w[0] + ", " + w[1] + ", " + w[2] + ")", x.frequency(w[0], w[1], w[2]), bad);
        }
        due("frequency(0, 0, 0), no GATES", Check.withEdges(0, 60).frequency(0, 0, 0), bad);
    }

    private static void frequencyNot() {
        Sentences.of(24, "NOT: it does not CLOSE, or what is below is not above 0.");
        long not = Check.far(Check.NOT);
        PeriodGates x = new PeriodGates();
        x.gate(0, 60);
        for (int of = 0; of <= 3; of++) {
            frequencyIs(x, of, not, not);
        }
        x.edge(60);
        for (int of = 0; of <= 3; of++) {
            frequencyIs(x, of, not, not);
        }
        due("frequency(0, 4, 0), BAD ahead of NOT", x.frequency(0, 4, 0), Check.far(Check.BAD));
        due("frequency(0, 0, 2), BAD ahead of NOT", x.frequency(0, 0, 2), Check.far(Check.BAD));
        PeriodGates y = Check.withEdges(0, 59);
        y.gate(0, 59);
        // One BIN: STAMPS are alike, BOUNDS too.
        frequencyIs(y, 0, not, not);
        frequencyIs(y, 1, 1, 59);
        frequencyIs(y, 2, not, not);
        frequencyIs(y, 3, 1, 59);
        y.cut(59);
        frequencyIs(y, 0, 1, 30);
        frequencyIs(y, 2, 1, 1);
        PeriodGates z = new PeriodGates();
        z.cut(20);
        z.cut(40);
        z.hit(20, 1);
        Check.type(z, "dense");
        Check.edgesAt(z, 40, 60);
        z.gate(0, 60);
        // No HITS behind FINE 39, none ahead of 20: both STAMPS are 60.
        frequencyIs(z, 0, not, not);
        frequencyIs(z, 2, 1, 1);
    }

    private static void closing() {
        Sentences.of(25, "The k-th GATE to CLOSE.");
        PeriodGates x = Check.withEdges(0, 60, 120);
        x.gate(121, 122);
        x.gate(0, 120);
        x.gate(0, 60);
        x.gate(1, 120);
        x.gate(0, 61);
        x.gate(61, 62);
        x.gate(59, 60);
        x.gate(0, 1);
        // CLOSE at: never, 2, 1, 2, 2, never, never, 1; OPEN at: none, 0, 0, 1, 0, 2, 1, 0.
        int[] order = {2, 7, 1, 4, 3, 0, 5, 6};
        for (int k = 0; k < order.length; k++) {
            due("closing(" + k + ")", x.closing(k), order[k]);
        }
        PeriodGates one = new PeriodGates();
        one.gate(0, 1);
        due("closing(0), it never CLOSES", one.closing(0), 0);
        Sentences.of(25, "BAD.");
        for (int k : new int[] {-1, 8, LEAST, MOST}) {
            due("closing(" + k + ")", x.closing(k), Check.BAD);
        }
        due("closing(1), one GATE", one.closing(1), Check.BAD);
        due("closing(0), no GATES", new PeriodGates().closing(0), Check.BAD);
    }

    private static void chain() {
        Sentences.of(26, "THE CHAIN: of GATE k the EDGE where it OPENS (what = 0), CLOSES (1), PERIODS (2);");
        PeriodGates x = withRow(60, 32);
        for (int k : new int[] {0, 1, 30}) {
            due("chain(1, " + k + ", 0)", x.chain(1, k, 0), k);
            due("chain(1, " + k + ", 1)", x.chain(1, k, 1), k + 1);
            due("chain(1, " + k + ", 2)", x.chain(1, k, 2), 1);
        }
        due("chain(31, 0, 1)", x.chain(31, 0, 1), 31);
        due("chain(31, 0, 2)", x.chain(31, 0, 2), 31);
        x.nominal(6);
        x.mend(1);
        due("chain(31, 0, 2), mended", x.chain(31, 0, 2), 310);
        due("chain(1, 30, 2), mended", x.chain(1, 30, 2), 10);
        PeriodGates wide = Check.withEdges(0, 5939, 5999);
        due("chain(99, 0, 1)", wide.chain(99, 0, 1), 2);
        due("chain(98, 0, 1)", wide.chain(98, 0, 1), 1);
        Sentences.of(26, "BAD (G too).");
        int[][] bad = {
            {0, 0, 0}, {100, 0, 0}, {LEAST, 0, 3}, {MOST, 0, 4}, {1, -1, 0}, {1, 31, 0}, {1, 31, 1}, {1, 31, 2}, {31, 1, 0},
            {32, 0, 0}, {1, LEAST, 1}, {1, MOST, 2}, {1, 0, -1}, {1, 0, 5}, {1, 0, LEAST}, {1, 0, MOST}, {0, 0, 3}, {100, 0, 4}
        };
        for (int[] b : bad) {
            due("chain(" + b[0] + ", " + b[1] + ", " + b[2] + ")", x.chain(b[0], b[1], b[2]), Check.BAD);
        }
        for (int what = 0; what <= 2; what++) {
            due("chain(1, 0, " + what + "), no EDGES", new PeriodGates().chain(1, 0, what), Check.BAD);
            due("chain(1, 0, " + what + "), one EDGE", Check.withEdges(5999).chain(1, 0, what), Check.BAD);
            due("chain(1, 0, " + what + "), one COARSE", Check.withEdges(0, 59).chain(1, 0, what), Check.BAD);
        }
    }

    private static void chainOfAll() {
        Sentences.of(26, "of all of them how many there are (3; k is not looked at), PERIODS together (4; neither).");
        PeriodGates x = withRow(60, 32);
        for (int k : new int[] {0, -1, 31, LEAST, MOST}) {
            due("chain(1, " + k + ", 3)", x.chain(1, k, 3), 31);
            due("chain(1, " + k + ", 4)", x.chain(1, k, 4), 31);
            due("chain(7, " + k + ", 3)", x.chain(7, k, 3), 4);
            due("chain(7, " + k + ", 4), not those behind the last", x.chain(7, k, 4), 28);
            due("chain(32, " + k + ", 3)", x.chain(32, k, 3), 0);
            due("chain(32, " + k + ", 4)", x.chain(32, k, 4), 0);
        }
        x.nominal(6);
        x.mend(1);
        due("chain(1, 0, 4), mended", x.chain(1, 0, 4), 310);
        PeriodGates none = new PeriodGates();
        due("chain(1, 0, 3), no EDGES", none.chain(1, 0, 3), 0);
        due("chain(1, 0, 4), no EDGES", none.chain(1, 0, 4), 0);
        due("chain(1, 0, 3), one EDGE", Check.withEdges(60).chain(1, 0, 3), 0);
        due("chain(1, 0, 4), one COARSE", Check.withEdges(0, 59).chain(1, 0, 4), 0);
    }

    private static void fit() {
        Sentences.of(27, "PERIOD by FIT: above, below.");
        PeriodGates x = withRow(180, 32);
        due("fit(0, 31, 0)", x.fit(0, 31, 0), 180);
        due("fit(0, 31, 1)", x.fit(0, 31, 1), 1);
        due("fit(0, 1, 0)", x.fit(0, 1, 0), 180);
        due("fit(30, 31, 0)", x.fit(30, 31, 0), 180);
        PeriodGates y = Check.withEdges(0, 59, 60);
        // STAMPS 30, 30, 90.
        due("fit(0, 1, 0), 0 by 1", y.fit(0, 1, 0), 0);
        due("fit(0, 1, 1), 0 by 1", y.fit(0, 1, 1), 1);
        due("fit(0, 2, 0)", y.fit(0, 2, 0), 30);
        for (int k = 1; k <= 6; k++) {
            y.cut(k);
        }
        // 30 / 7, 390 / 7, 60 and 30 / 7; the ends alone count.
        due("fit(0, 1, 0), 360 by 7", y.fit(0, 1, 0), 360);
        due("fit(0, 1, 1), 360 by 7", y.fit(0, 1, 1), 7);
        due("fit(0, 2, 0)", y.fit(0, 2, 0), 30);
        due("fit(0, 2, 1)", y.fit(0, 2, 1), 1);
        Sentences.of(27, "BAD: no two such EDGES, i below j.");
        int[][] wrong = {
            {0, 0, 0}, {31, 31, 0}, {1, 0, 0}, {31, 0, 0}, {-1, 1, 0}, {0, 32, 0}, {31, 32, 0}, {LEAST, 0, 0}, {0, MOST, 0},
            {MOST, LEAST, 0}, {0, 1, -1}, {0, 1, 2}, {0, 1, LEAST}, {0, 1, MOST}
        };
        for (int[] w : wrong) {
            due("fit(" + w[0] + ", " + w[1] + ", " + w[2] + ")", x.fit(w[0], w[1], w[2]), Check.far(Check.BAD));
        }
        due("fit(0, 0, 0), one EDGE", Check.withEdges(7).fit(0, 0, 0), Check.far(Check.BAD));
        due("fit(0, 1, 0), one EDGE", Check.withEdges(7).fit(0, 1, 0), Check.far(Check.BAD));
        due("fit(0, 1, 0), no EDGES", new PeriodGates().fit(0, 1, 0), Check.far(Check.BAD));
    }

    private static void off() {
        Sentences.of(28, "OFF.");
        PeriodGates x = withRow(180, 32);
        due("off(0, 31), all on THE LINE", x.off(0, 31), 0);
        due("off(30, 31)", x.off(30, 31), 30);
        x.gone(31);
        x.edge(5999);
        due("off(0, 31), the last", x.off(0, 31), 31);
        due("off(0, 30), all on THE LINE", x.off(0, 30), 0);
        Sentences.of(28, "BAD: as with fit().");
        int[][] wrong = {
            {0, 0}, {31, 31}, {1, 0}, {-1, 1}, {0, 32}, {31, 32}, {LEAST, 0}, {0, MOST}, {MOST, LEAST}, {LEAST, MOST}
        };
        for (int[] w : wrong) {
            due("off(" + w[0] + ", " + w[1] + ")", x.off(w[0], w[1]), Check.BAD);
        }
        due("off(0, 0), one EDGE", Check.withEdges(7).off(0, 0), Check.BAD);
        due("off(0, 1), no EDGES", new PeriodGates().off(0, 1), Check.BAD);
    }

    private static void gain() {
        Sentences.of(29, "GAIN: above, below.");
        PeriodGates x = new PeriodGates();
        due("gain(3, 0)", x.gain(3, 0), 1);
        due("gain(3, 1)", x.gain(3, 1), 1);
        due("gain(32, 0)", x.gain(32, 0), 176);
        due("gain(32, 1)", x.gain(32, 1), 31);
        x.edges(0, 1, 2);
        x.mend(1);
        due("gain(32, 0), whatever EDGES there are", x.gain(32, 0), 176);
        Sentences.of(29, "BAD.");
        int[][] wrong = {{2, 0}, {33, 0}, {0, 0}, {LEAST, 0}, {MOST, 0}, {3, -1}, {3, 2}, {3, LEAST}, {3, MOST}};
        for (int[] w : wrong) {
            due("gain(" + w[0] + ", " + w[1] + ")", x.gain(w[0], w[1]), Check.far(Check.BAD));
        }
    }

    private static void variance() {
        Sentences.of(30, "VARIANCE: above, below.");
        PeriodGates x = Check.withEdges(0, 60, 180);
        due("variance(1, 0), three EDGES", x.variance(1, 0), 1800);
        due("variance(1, 1), three EDGES", x.variance(1, 1), 1);
        PeriodGates y = withRow(60, 31);
        due("variance(15, 0), 31 EDGES", y.variance(15, 0), 0);
        due("variance(15, 1), 31 EDGES", y.variance(15, 1), 1);
        y.edge(5999);
        // STAMP 5970, not 1890: a bend of 4080 for one of two.
        due("variance(15, 0), 32 EDGES", y.variance(15, 0), 4080 * 4080 / 900);
        due("variance(15, 1), 32 EDGES", y.variance(15, 1), 1);
        Sentences.of(30, "BAD");
        int[][] wrong = {{0, 0}, {16, 0}, {-1, 0}, {LEAST, 0}, {MOST, 0}, {1, -1}, {1, 2}, {1, LEAST}, {1, MOST}};
        for (int[] w : wrong) {
            due("variance(" + w[0] + ", " + w[1] + ")", y.variance(w[0], w[1]), Check.far(Check.BAD));
        }
        Sentences.of(30, "NOT: there are too few EDGES.");
        for (int m = 1; m <= 15; m++) {
            PeriodGates few = withRow(60, 2 * m);
            due("variance(" + m + ", 0), " + 2 * m + " EDGES", few.variance(m, 0), Check.far(Check.NOT));
            due("variance(" + m + ", 1), " + 2 * m + " EDGES", few.variance(m, 1), Check.far(Check.NOT));
            few.edge(5999);
            due("variance(" + m + ", 0), one more", few.variance(m, 0) < 0 ? 1 : 0, 0);
        }
        due("variance(1, 0), no EDGES", new PeriodGates().variance(1, 0), Check.far(Check.NOT));
        due("variance(16, 0), BAD ahead of NOT", new PeriodGates().variance(16, 0), Check.far(Check.BAD));
        due("variance(1, 2), BAD ahead of NOT", new PeriodGates().variance(1, 2), Check.far(Check.BAD));
    }

    private static void rank() {
        Sentences.of(31, "The SPAN that is k-th by RANK.");
        due("rank(0), three EDGES", withRow(60, 3).rank(0), 1);
        PeriodGates x = withRow(60, 32);
        due("rank(0), 32 alike", x.rank(0), 1);
        due("rank(14), 32 alike", x.rank(14), 15);
        x.gone(31);
        x.edge(5999);
        // One bend of 4080 at each SPAN, by 2 m m (32 - 2 m): the greatest m m (16 - m) is the steadiest.
        int[] order = {11, 10, 12, 9, 8, 13, 7, 14, 6, 5, 15, 4, 3, 2, 1};
        for (int k = 0; k < order.length; k++) {
            due("rank(" + k + ")", x.rank(k), order[k]);
        }
        Sentences.of(31, "BAD: no such.");
        for (int k : new int[] {-1, 15, LEAST, MOST}) {
            due("rank(" + k + ")", x.rank(k), Check.BAD);
        }
        due("rank(0), no EDGES", new PeriodGates().rank(0), Check.BAD);
        due("rank(0), two EDGES", withRow(60, 2).rank(0), Check.BAD);
        due("rank(1), four EDGES", withRow(60, 4).rank(1), Check.BAD);
        due("rank(14), 30 EDGES", withRow(60, 30).rank(14), Check.BAD);
    }
}
