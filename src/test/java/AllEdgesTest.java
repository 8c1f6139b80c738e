/** Promises 27 to 31. */
public final class AllEdgesTest {
    public static void main(String[] args) {
        fit();
        off();
        gain();
        variance();
        rank();
        widest();
        everyPair();
        Check.end("AllEdgesTest");
    }

    private static void fitIs(PeriodGates x, int i, int j, long above, long below) {
        Check.due(27, "fit(" + i + ", " + j + ", 0)", x.fit(i, j, 0), above);
        Check.due(27, "fit(" + i + ", " + j + ", 1)", x.fit(i, j, 1), below);
    }

    private static void fit() {
        PeriodGates x = new PeriodGates();
        long bad = Check.far(Check.BAD);
        fitIs(x, 0, 1, bad, bad);
        Check.edgesAt(x, 0, 60, 180, 240);
        // STAMPS 30, 90, 210, 270.
        fitIs(x, 0, 1, 60, 1);
        fitIs(x, 0, 2, 90, 1);
        fitIs(x, 1, 2, 120, 1);
        fitIs(x, 0, 3, 84, 1);
        fitIs(x, 1, 3, 90, 1);
        x.nominal(60);
        x.mend(1);
        // PLACES 0, 1, 3, 4.
        fitIs(x, 0, 3, 60, 1);
        fitIs(x, 1, 3, 60, 1);
        x.mend(0);
        for (int fine = 1; fine <= 6; fine++) {
            x.cut(fine);
        }
        x.gone(3);
        x.edge(249);
        // CODE 6 of 7 BINS: 240 + 390 / 7; 30 / 7, 60 + 30 / 7, 180 + 30 / 7 ahead of it.
        fitIs(x, 0, 3, 84 * 7 + 108, 7);
        Check.edgesAt(x, 1000, 1001);
        x.clear();
        Check.edgesAt(x, 10, 20);
        fitIs(x, 0, 1, 0, 1);
        int[][] wrong = {{-1, 1, 0}, {0, 2, 0}, {0, 0, 0}, {1, 1, 0}, {1, 0, 0}, {0, 1, -1}, {0, 1, 2}};
        for (int[] w : wrong) {
            Check.due(27, "fit, BAD", x.fit(w[0], w[1], w[2]), bad);
        }
    }

    private static void off() {
        PeriodGates x = new PeriodGates();
        Check.due(28, "off(0, 1), no EDGES", x.off(0, 1), Check.BAD);
        Check.edgesAt(x, 0, 60, 180, 240, 300, 600);
        // STAMPS 30, 90, 210, 270, 330, 630.
        Check.due(28, "off(0, 1), both on THE LINE", x.off(0, 1), 0);
        Check.due(28, "off(1, 2), both on THE LINE", x.off(1, 2), 1);
        Check.due(28, "off(0, 2), below", x.off(0, 2), 1);
        Check.due(28, "off(1, 3), above", x.off(1, 3), 2);
        Check.due(28, "off(2, 4), all on THE LINE", x.off(2, 4), 2);
        Check.due(28, "off(0, 3), of like ones the least", x.off(0, 3), 1);
        Check.due(28, "off(3, 5), below", x.off(3, 5), 4);
        Check.due(28, "off(0, 5)", x.off(0, 5), 5);
        x.nominal(60);
        x.mend(1);
        Check.due(28, "off(0, 5), mended", x.off(0, 5), 0);
        int[][] wrong = {{-1, 1}, {0, 6}, {2, 2}, {3, 2}, {5, 6}};
        for (int[] w : wrong) {
            Check.due(28, "off, BAD", x.off(w[0], w[1]), Check.BAD);
        }
    }

    private static void gain() {
        PeriodGates x = new PeriodGates();
        long[][] due = {{3, 1, 1}, {4, 10, 9}, {5, 5, 4}, {6, 7, 5}, {31, 248, 45}, {32, 176, 31}};
        for (long[] row : due) {
            Check.due(29, "gain(" + row[0] + ", 0)", x.gain((int) row[0], 0), row[1]);
            Check.due(29, "gain(" + row[0] + ", 1)", x.gain((int) row[0], 1), row[2]);
        }
        int[][] wrong = {{2, 0}, {33, 0}, {5, -1}, {5, 2}, {-3, 0}};
        for (int[] w : wrong) {
            Check.due(29, "gain, BAD", x.gain(w[0], w[1]), Check.far(Check.BAD));
        }
    }

    private static void varianceIs(PeriodGates x, int m, long above, long below) {
        Check.due(30, "variance(" + m + ", 0)", x.variance(m, 0), above);
        Check.due(30, "variance(" + m + ", 1)", x.variance(m, 1), below);
    }

    private static void variance() {
        PeriodGates x = new PeriodGates();
        long not = Check.far(Check.NOT);
        varianceIs(x, 1, not, not);
        Check.edgesAt(x, 0, 60);
        varianceIs(x, 1, not, not);
        x.edge(180);
        // STAMPS 30, 90, 210.
        varianceIs(x, 1, 1800, 1);
        varianceIs(x, 2, not, not);
        Check.edgesAt(x, 240, 420);
        // STAMPS 30, 90, 210, 270, 450.
        varianceIs(x, 1, 3600, 1);
        varianceIs(x, 2, 450, 1);
        varianceIs(x, 3, not, not);
        varianceIs(x, 15, not, not);
        for (int fine = 1; fine <= 6; fine++) {
            x.cut(fine);
        }
        x.gone(4);
        x.gone(3);
        x.gone(2);
        x.edge(121);
        // CODES 0, 0, 1 of 7 BINS: the bend is 60 / 7.
        varianceIs(x, 1, 1800, 49);
        int[][] wrong = {{0, 0}, {16, 0}, {1, -1}, {1, 2}, {-1, 0}};
        for (int[] w : wrong) {
            Check.due(30, "variance, BAD", x.variance(w[0], w[1]), Check.far(Check.BAD));
        }
        Check.due(30, "variance(16, 0), BAD ahead of NOT", x.variance(16, 0), Check.far(Check.BAD));
        x.mend(1);
        x.nominal(1);
        varianceIs(x, 1, 1800, 49);
    }

    private static void rank() {
        PeriodGates x = new PeriodGates();
        Check.due(31, "rank(0), no EDGES", x.rank(0), Check.BAD);
        Check.edgesAt(x, 0, 60);
        Check.due(31, "rank(0), too few EDGES", x.rank(0), Check.BAD);
        Check.edgesAt(x, 180, 240, 420);
        Check.due(31, "rank(0)", x.rank(0), 2);
        Check.due(31, "rank(1)", x.rank(1), 1);
        Check.due(31, "rank(2)", x.rank(2), Check.BAD);
        Check.due(31, "rank(-1)", x.rank(-1), Check.BAD);
        x.clear();
        x.edges(0, 60, 31);
        for (int k = 0; k < 15; k++) {
            Check.due(31, "rank(" + k + "), all alike", x.rank(k), k + 1);
        }
        Check.due(31, "rank(15)", x.rank(15), Check.BAD);
        x.gone(30);
        Check.due(31, "rank(14), 30 EDGES", x.rank(14), Check.BAD);
    }

    /** EDGES of no order at all: each pair of them, and each SPAN, as the Oracle has it. */
    private static void everyPair() {
        PeriodGates x = new PeriodGates();
        Oracle o = new Oracle();
        for (int fine : new int[] {7, 19, 20, 44, 58}) {
            x.cut(fine);
            o.cut(fine);
        }
        for (int k = 0; k < 20; k++) {
            int time = k * k * 977 % 5987;
            Check.due(2, "edge(" + time + ")", x.edge(time), o.edge(time));
        }
        for (int mend = 0; mend <= 1; mend++) {
            x.mend(mend);
            o.mend(mend);
            for (int i = 0; i < 20; i++) {
                for (int j = i + 1; j < 20; j++) {
                    String pair = "(" + i + ", " + j;
                    Check.due(27, "fit" + pair + ", 0)", x.fit(i, j, 0), o.fit(i, j, 0));
                    Check.due(27, "fit" + pair + ", 1)", x.fit(i, j, 1), o.fit(i, j, 1));
                    Check.due(28, "off" + pair + ")", x.off(i, j), o.off(i, j));
                }
            }
        }
        for (int k = 0; k < 15; k++) {
            Check.due(30, "variance(" + (k + 1) + ", 0)", x.variance(k + 1, 0), o.variance(k + 1, 0));
            Check.due(30, "variance(" + (k + 1) + ", 1)", x.variance(k + 1, 1), o.variance(k + 1, 1));
            Check.due(31, "rank(" + k + ")", x.rank(k), o.rank(k));
        }
    }

    /** As many EDGES and HITS as there can be, as far apart as they can be: nothing may wrap. */
    private static void widest() {
        PeriodGates x = new PeriodGates();
        Oracle o = new Oracle();
        x.cut(59);
        o.cut(59);
        for (int fine : new int[] {0, 59, 59, 59}) {
            x.hit(fine, 99);
            o.hit(fine, 99);
        }
        x.hit(59, 4);
        o.hit(59, 4);
        for (char c : "dense".toCharArray()) {
            x.type(c);
            o.type(c);
        }
        for (int a : new int[] {0, 5984}) {
            x.edges(a, 1, 16);
            o.edges(a, 1, 16);
        }
        for (int mend = 0; mend <= 1; mend++) {
            for (int nominal : new int[] {0, 1, 7, 600}) {
                x.mend(mend);
                o.mend(mend);
                x.nominal(nominal);
                o.nominal(nominal);
                Check.due(41, "digest() of the widest", x.digest(), o.digest());
                Check.due(28, "off(0, 31) of the widest", x.off(0, 31), o.off(0, 31));
                Check.due(27, "fit(0, 31, 0) of the widest", x.fit(0, 31, 0), o.fit(0, 31, 0));
            }
        }
    }
}
