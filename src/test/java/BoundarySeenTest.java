/** Promises 13 to 20, each sentence at its boundaries. */
public final class BoundarySeenTest {
    private static final int LEAST = Integer.MIN_VALUE, MOST = Integer.MAX_VALUE;

    public static void main(String[] args) {
        type();
        wipe();
        mode();
        nominal();
        mend();
        seen();
        seenBehind();
        stamp();
        reference();
        Sentences.end("BoundarySeenTest", 13, 20);
    }

    private static void due(String call, long got, long want) {
        Sentences.due(call, got, want);
    }

    private static void type() {
        Sentences.of(13, "A byte (0 to 255) comes behind MODE: how many.");
        PeriodGates x = new PeriodGates();
        due("type(0)", x.type(0), 1);
        due("type(255)", x.type(255), 2);
        due("type(128)", x.type(128), 3);
        due("type(107)", x.type(107), 4);
        due("type(0)", x.type(0), 5);
        due("count(7)", x.count(7), 5);
        PeriodGates y = new PeriodGates();
        Check.type(y, "know");
        due("mode(), 4 bytes", y.mode(), 0);
        due("type('n'), behind them", y.type('n'), 5);
        due("mode(), 5 bytes", y.mode(), 2);
        Sentences.of(13, "BAD");
        y.wipe();
        for (int b : new int[] {-1, 256, LEAST, MOST, 256 + 107}) {
            due("type(" + b + ")", y.type(b), Check.BAD);
        }
        due("count(7)", y.count(7), 0);
        Sentences.of(13, "FULL");
        Check.type(y, "dense");
        due("type(0)", y.type(0), Check.FULL);
        due("type(255)", y.type(255), Check.FULL);
        due("type(256), BAD ahead of FULL", y.type(256), Check.BAD);
        due("count(7)", y.count(7), 5);
        due("mode(), as it was", y.mode(), 1);
    }

    private static void wipe() {
        Sentences.of(14, "MODE is empty: how many bytes it had.");
        PeriodGates x = new PeriodGates();
        due("wipe(), it is empty", x.wipe(), 0);
        x.type(0);
        due("wipe(), one byte", x.wipe(), 1);
        Check.type(x, "known");
        due("wipe(), 5 bytes", x.wipe(), 5);
        due("count(7)", x.count(7), 0);
        due("mode()", x.mode(), 0);
        Check.type(x, "dense");
        due("mode(), typed anew", x.mode(), 1);
        x.wipe();
        Check.type(x, "kno");
        due("mode(), what was there is gone", x.mode(), 0);
        due("wipe(), 3 bytes", x.wipe(), 3);
        x.cut(1);
        x.edge(0);
        Check.type(x, "known");
        due("stamp(0, 1), known", x.stamp(0, 1), 2);
        due("wipe()", x.wipe(), 5);
        due("stamp(0, 0), by line behind it", x.stamp(0, 0), 15);
    }

    private static void mode() {
        Sentences.of(15, "MODE as it is taken: 0 line, 1 dense, 2 known (1 also with no HITS).");
        PeriodGates x = new PeriodGates();
        due("mode(), empty", x.mode(), 0);
        Check.type(x, "dense");
        due("mode(), no HITS", x.mode(), 1);
        x.hit(0, 1);
        due("mode(), HITS", x.mode(), 1);
        x.fresh();
        due("mode(), no HITS again", x.mode(), 1);
        x.wipe();
        Check.type(x, "known");
        due("mode(), known", x.mode(), 2);
        x.wipe();
        Check.type(x, "line");
        due("mode(), line", x.mode(), 0);
    }

    private static void nominal() {
        Sentences.of(16, "NOMINAL: what it was.");
        PeriodGates x = new PeriodGates();
        due("nominal(1)", x.nominal(1), 0);
        due("nominal(600)", x.nominal(600), 1);
        due("nominal(0)", x.nominal(0), 600);
        due("nominal(0)", x.nominal(0), 0);
        Sentences.of(16, "BAD");
        x.nominal(77);
        for (int p : new int[] {-1, 601, LEAST, MOST}) {
            due("nominal(" + p + ")", x.nominal(p), Check.BAD);
        }
        due("reference(0)", x.reference(0), 77);
        due("nominal(0), as it was", x.nominal(0), 77);
    }

    private static void mend() {
        Sentences.of(17, "MEND: what it was.");
        PeriodGates x = new PeriodGates();
        due("mend(0)", x.mend(0), 0);
        due("mend(1)", x.mend(1), 0);
        due("mend(1)", x.mend(1), 1);
        due("mend(0)", x.mend(0), 1);
        Sentences.of(17, "BAD");
        x.mend(1);
        for (int v : new int[] {-1, 2, LEAST, MOST}) {
            due("mend(" + v + ")", x.mend(v), Check.BAD);
        }
        due("mend(1), as it was", x.mend(1), 1);
    }

    private static void seen() {
        Sentences.of(18, "Of an EDGE TIME (what = 0), COARSE (1), CODE (2), the least BOUND (3), the greatest (4), PLACE (5),");
        PeriodGates x = new PeriodGates();
        for (int k = 49; k <= 59; k++) {
            x.cut(k);
        }
        Check.edgesAt(x, 0, 48, 49, 5939, 5940, 5999);
        int[][] rows = {
            {0, 0, 0, 0, 48, 0}, {48, 0, 0, 0, 48, 1}, {49, 0, 1, 49, 49, 2}, {5939, 98, 11, 5939, 5939, 3},
            {5940, 99, 0, 5940, 5988, 4}, {5999, 99, 11, 5999, 5999, 5}
        };
        for (int i = 0; i < rows.length; i++) {
            for (int what = 0; what <= 5; what++) {
                due("seen(" + i + ", " + what + ")", x.seen(i, what), rows[i][what]);
            }
        }
        Sentences.of(18, "BAD.");
        int[][] bad = {{-1, 0}, {6, 0}, {LEAST, 0}, {MOST, 0}, {0, -1}, {0, 8}, {0, LEAST}, {0, MOST}};
        for (int[] b : bad) {
            due("seen(" + b[0] + ", " + b[1] + ")", x.seen(b[0], b[1]), Check.BAD);
        }
        for (int what = 0; what <= 7; what++) {
            due("seen(0, " + what + "), no EDGES", new PeriodGates().seen(0, what), Check.BAD);
        }
    }

    private static void seenBehind() {
        Sentences.of(18, "LOST in the GAP behind it (6; NONE: it is the last),");
        PeriodGates x = new PeriodGates();
        x.edge(0);
        due("seen(0, 6), the only one", x.seen(0, 6), Check.NONE);
        x.nominal(60);
        due("seen(0, 6), the only one", x.seen(0, 6), Check.NONE);
        Check.edgesAt(x, 60, 180, 780, 1440);
        int[] lost = {0, 1, 9, 9, Check.NONE};
        for (int i = 0; i < lost.length; i++) {
            due("seen(" + i + ", 6)", x.seen(i, 6), lost[i]);
        }
        Sentences.of(18, "whether that is a BREAK (7: 1, 0; of the last 0).");
        int[] broken = {0, 0, 0, 1, 0};
        for (int i = 0; i < broken.length; i++) {
            due("seen(" + i + ", 7)", x.seen(i, 7), broken[i]);
        }
        x.gone(4);
        due("seen(3, 6), the last now", x.seen(3, 6), Check.NONE);
        due("seen(3, 7), the last now", x.seen(3, 7), 0);
        PeriodGates y = new PeriodGates();
        y.edges(0, 180, 32);
        y.nominal(1);
        due("seen(30, 6), of 32", y.seen(30, 6), 9);
        due("seen(30, 7), of 32", y.seen(30, 7), 1);
        due("seen(31, 6), of 32", y.seen(31, 6), Check.NONE);
        due("seen(31, 7), of 32", y.seen(31, 7), 0);
        PeriodGates one = new PeriodGates();
        one.edge(5999);
        due("seen(0, 7), the only one", one.seen(0, 7), 0);
    }

    private static void stamp() {
        Sentences.of(19, "STAMP: above, below.");
        PeriodGates x = new PeriodGates();
        x.edge(0);
        due("stamp(0, 0)", x.stamp(0, 0), 30);
        due("stamp(0, 1)", x.stamp(0, 1), 1);
        for (int k = 49; k <= 59; k++) {
            x.cut(k);
        }
        x.edges(5999, 1, 1);
        due("stamp(0, 0)", x.stamp(0, 0), 5);
        due("stamp(0, 1)", x.stamp(0, 1), 2);
        due("stamp(1, 0)", x.stamp(1, 0), 11995);
        due("stamp(1, 1)", x.stamp(1, 1), 2);
        Check.type(x, "known");
        due("stamp(0, 0), known", x.stamp(0, 0), 49);
        due("stamp(0, 1), known", x.stamp(0, 1), 2);
        due("stamp(1, 0), known", x.stamp(1, 0), 11999);
        due("stamp(1, 1), known", x.stamp(1, 1), 2);
        Sentences.of(19, "BAD.");
        int[][] wrong = {{-1, 0}, {2, 0}, {LEAST, 0}, {MOST, 0}, {0, -1}, {0, 2}, {0, LEAST}, {0, MOST}};
        for (int[] w : wrong) {
            due("stamp(" + w[0] + ", " + w[1] + ")", x.stamp(w[0], w[1]), Check.far(Check.BAD));
        }
        due("stamp(0, 0), no EDGES", new PeriodGates().stamp(0, 0), Check.far(Check.BAD));
    }

    private static void reference() {
        Sentences.of(20, "REFERENCE: above, below.");
        PeriodGates x = new PeriodGates();
        Check.edgesAt(x, 0, 1);
        due("reference(0), 0 by 1", x.reference(0), 0);
        due("reference(1), 0 by 1", x.reference(1), 1);
        x.cut(1);
        x.cut(2);
        x.cut(3);
        x.cut(4);
        x.cut(5);
        x.cut(6);
        due("reference(0), 60 by 7", x.reference(0), 60);
        due("reference(1), 60 by 7", x.reference(1), 7);
        x.nominal(600);
        due("reference(0), NOMINAL", x.reference(0), 600);
        due("reference(1), NOMINAL", x.reference(1), 1);
        Sentences.of(20, "BAD");
        for (int what : new int[] {-1, 2, LEAST, MOST}) {
            due("reference(" + what + ")", x.reference(what), Check.far(Check.BAD));
        }
        Sentences.of(20, "NOT: NOMINAL is 0, and there are no GAPS");
        PeriodGates y = new PeriodGates();
        due("reference(0), no EDGES", y.reference(0), Check.far(Check.NOT));
        due("reference(1), no EDGES", y.reference(1), Check.far(Check.NOT));
        due("reference(2), BAD ahead of NOT", y.reference(2), Check.far(Check.BAD));
        y.nominal(1);
        due("reference(0), NOMINAL is not 0", y.reference(0), 1);
        y.nominal(0);
        y.edge(0);
        due("reference(0), one EDGE", y.reference(0), Check.far(Check.NOT));
        y.edge(5999);
        due("reference(0), one GAP", y.reference(0), 5940);
        y.gone(0);
        due("reference(0), one EDGE again", y.reference(0), Check.far(Check.NOT));
    }
}
