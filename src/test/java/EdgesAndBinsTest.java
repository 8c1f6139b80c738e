/** Promises 2 to 12. */
public final class EdgesAndBinsTest {
    public static void main(String[] args) {
        edge();
        edges();
        goneAndClear();
        cut();
        hit();
        sweep();
        fresh();
        bin();
        dense();
        worst();
        Check.end("EdgesAndBinsTest");
    }

    private static void edge() {
        PeriodGates x = new PeriodGates();
        Check.due(2, "edge(-1)", x.edge(-1), Check.BAD);
        Check.due(2, "edge(6000)", x.edge(6000), Check.BAD);
        Check.due(2, "edge(5999)", x.edge(5999), 0);
        Check.due(2, "edge(0)", x.edge(0), 0);
        Check.due(2, "edge(3000)", x.edge(3000), 1);
        Check.due(2, "edge(3000) again", x.edge(3000), Check.NOT);
        Check.due(2, "count(0)", x.count(0), 3);
        for (int k = 1; k <= 29; k++) {
            Check.due(2, "edge(" + k + ")", x.edge(k), k);
        }
        Check.due(2, "edge(40), there are 32", x.edge(40), Check.FULL);
        Check.due(2, "edge(3000), NOT ahead of FULL", x.edge(3000), Check.NOT);
        Check.due(2, "edge(6000), BAD ahead of FULL", x.edge(6000), Check.BAD);
        Check.due(2, "count(0)", x.count(0), 32);
        Check.due(2, "seen(30, 0)", x.seen(30, 0), 3000);
        Check.due(2, "seen(31, 0)", x.seen(31, 0), 5999);
    }

    private static void edges() {
        PeriodGates x = new PeriodGates();
        int[][] bad = {{-1, 1, 1}, {6000, 1, 1}, {0, 0, 1}, {0, 601, 1}, {0, 1, 0}, {0, 1, 33}};
        for (int[] b : bad) {
            Check.due(3, "edges, BAD", x.edges(b[0], b[1], b[2]), Check.BAD);
        }
        Check.due(3, "edges(0, 600, 32)", x.edges(0, 600, 32), 10);
        Check.due(3, "seen(9, 0)", x.seen(9, 0), 5400);
        Check.due(3, "edges(1200, 1, 3), one is there", x.edges(1200, 1, 3), 0);
        Check.due(3, "edges(590, 5, 9), up to one that is there", x.edges(590, 5, 9), 2);
        Check.due(3, "edges(5999, 1, 5)", x.edges(5999, 1, 5), 1);
        Check.due(3, "edges(1, 1, 32), as long as there is room", x.edges(1, 1, 32), 19);
        Check.due(3, "edges(100, 1, 1), no room", x.edges(100, 1, 1), 0);
        Check.due(3, "edges(-1, 1, 1), no room", x.edges(-1, 1, 1), Check.BAD);
        Check.due(3, "count(0)", x.count(0), 32);
        PeriodGates y = new PeriodGates();
        Check.due(3, "edges(0, 1, 32)", y.edges(0, 1, 32), 32);
        Check.due(3, "seen(31, 0)", y.seen(31, 0), 31);
        Check.due(2, "edge(5000) behind 32", y.edge(5000), Check.FULL);
        y.gate(5000, 5001);
        Check.due(23, "where(0, 0) behind 32", y.where(0, 0), Check.NONE);
        Check.due(4, "gone(31) of 32", y.gone(31), 31);
        Check.due(4, "gone(0) of 31", y.gone(0), 0);
        Check.due(4, "seen(29, 0)", y.seen(29, 0), 30);
    }

    private static void goneAndClear() {
        PeriodGates x = new PeriodGates();
        Check.due(4, "gone(0), there is none", x.gone(0), Check.BAD);
        Check.due(5, "clear(), there is none", x.clear(), 0);
        Check.edgesAt(x, 500, 100, 300);
        Check.due(4, "gone(-1)", x.gone(-1), Check.BAD);
        Check.due(4, "gone(3)", x.gone(3), Check.BAD);
        Check.due(4, "gone(1)", x.gone(1), 300);
        Check.due(4, "seen(1, 0)", x.seen(1, 0), 500);
        Check.due(4, "gone(1)", x.gone(1), 500);
        Check.due(4, "gone(1)", x.gone(1), Check.BAD);
        Check.due(4, "edge(300) anew", x.edge(300), 1);
        x.cut(9);
        x.gate(1, 2);
        Check.due(5, "clear()", x.clear(), 2);
        Check.due(5, "count(0)", x.count(0), 0);
        Check.due(5, "seen(0, 0)", x.seen(0, 0), Check.BAD);
        Check.due(5, "count(1), BINS stay", x.count(1), 2);
        Check.due(5, "count(3), GATES stay", x.count(3), 1);
        Check.due(5, "clear() again", x.clear(), 0);
        Check.due(5, "edge(100)", x.edge(100), 0);
    }

    private static void cut() {
        PeriodGates x = new PeriodGates();
        Check.due(6, "cut(0)", x.cut(0), Check.BAD);
        Check.due(6, "cut(60)", x.cut(60), Check.BAD);
        Check.due(6, "cut(59)", x.cut(59), 2);
        Check.due(6, "cut(1)", x.cut(1), 3);
        Check.due(6, "cut(30)", x.cut(30), 4);
        Check.due(6, "cut(1) goes", x.cut(1), 3);
        Check.due(6, "bin(1, 0)", x.bin(1, 0), 30);
        x.hit(0, 3);
        for (int k = 1; k <= 9; k++) {
            Check.due(6, "cut(" + 2 * k + ")", x.cut(2 * k), 3 + k);
        }
        Check.due(6, "count(2), a CUT came", x.count(2), 0);
        x.hit(0, 3);
        Check.due(6, "cut(3), there are 11", x.cut(3), Check.FULL);
        Check.due(6, "cut(60), BAD ahead of FULL", x.cut(60), Check.BAD);
        Check.due(6, "count(2), refusals change nothing", x.count(2), 3);
        Check.due(6, "cut(30) goes, there are 11", x.cut(30), 11);
        Check.due(6, "count(2), a CUT went", x.count(2), 0);
        Check.due(6, "bin(10, 0)", x.bin(10, 0), 59);
        Check.due(6, "bin(10, 2)", x.bin(10, 2), 0);
    }

    private static void hit() {
        PeriodGates x = new PeriodGates();
        x.cut(20);
        int[][] bad = {{-1, 1}, {60, 1}, {0, 0}, {0, 100}};
        for (int[] b : bad) {
            Check.due(7, "hit, BAD", x.hit(b[0], b[1]), Check.BAD);
        }
        Check.due(7, "hit(19, 99)", x.hit(19, 99), 99);
        Check.due(7, "hit(20, 99)", x.hit(20, 99), 99);
        Check.due(7, "hit(0, 1)", x.hit(0, 1), 100);
        Check.due(7, "hit(59, 99)", x.hit(59, 99), 198);
        Check.due(7, "hit(59, 99)", x.hit(59, 99), 297);
        Check.due(7, "hit(0, 4), they would be 401", x.hit(0, 4), Check.FULL);
        Check.due(7, "hit(60, 4), BAD ahead of FULL", x.hit(60, 4), Check.BAD);
        Check.due(7, "hit(0, 3), they are 400", x.hit(0, 3), 103);
        Check.due(7, "hit(0, 1)", x.hit(0, 1), Check.FULL);
        Check.due(7, "count(2)", x.count(2), 400);
    }

    private static void sweep() {
        PeriodGates x = new PeriodGates();
        x.cut(30);
        int[][] bad = {{0, 1}, {60, 1}, {1, 0}, {1, 401}, {-1, 1}, {1, -1}};
        for (int[] b : bad) {
            Check.due(8, "sweep, BAD", x.sweep(b[0], b[1]), Check.BAD);
        }
        Check.due(8, "sweep(25, 4): 0, 25, 50, 15", x.sweep(25, 4), 4);
        Check.due(8, "bin(0, 2)", x.bin(0, 2), 3);
        Check.due(8, "bin(1, 2)", x.bin(1, 2), 1);
        Check.due(8, "sweep(59, 2): 0, 59", x.sweep(59, 2), 6);
        Check.due(8, "bin(1, 2)", x.bin(1, 2), 2);
        Check.due(8, "sweep(1, 395)", x.sweep(1, 395), Check.FULL);
        Check.due(8, "count(2)", x.count(2), 6);
        Check.due(8, "sweep(1, 394)", x.sweep(1, 394), 400);
        Check.due(8, "bin(0, 2)", x.bin(0, 2), 4 + 6 * 30 + 30);
        Check.due(8, "sweep(1, 1)", x.sweep(1, 1), Check.FULL);
        Check.due(8, "sweep(1, 401), BAD ahead of FULL", x.sweep(1, 401), Check.BAD);
        x.fresh();
        Check.due(8, "sweep(59, 400)", x.sweep(59, 400), 400);
    }

    private static void fresh() {
        PeriodGates x = new PeriodGates();
        x.cut(30);
        Check.due(9, "fresh(), there are none", x.fresh(), 0);
        x.sweep(1, 60);
        x.hit(40, 7);
        Check.due(9, "fresh()", x.fresh(), 67);
        Check.due(9, "count(2)", x.count(2), 0);
        Check.due(9, "bin(0, 2)", x.bin(0, 2), 0);
        Check.due(9, "bin(1, 2)", x.bin(1, 2), 0);
        Check.due(9, "count(1), CUTS stay", x.count(1), 2);
        Check.due(9, "fresh() again", x.fresh(), 0);
    }

    private static void bin() {
        PeriodGates x = new PeriodGates();
        x.cut(59);
        x.cut(10);
        x.hit(10, 5);
        int[][] due = {{0, 10, 0}, {10, 49, 5}, {59, 1, 0}};
        for (int b = 0; b < due.length; b++) {
            for (int what = 0; what <= 2; what++) {
                Check.due(10, "bin(" + b + ", " + what + ")", x.bin(b, what), due[b][what]);
            }
        }
        Check.due(10, "bin(-1, 0)", x.bin(-1, 0), Check.BAD);
        Check.due(10, "bin(3, 0)", x.bin(3, 0), Check.BAD);
        Check.due(10, "bin(0, -1)", x.bin(0, -1), Check.BAD);
        Check.due(10, "bin(0, 3)", x.bin(0, 3), Check.BAD);
    }

    private static void dense() {
        PeriodGates x = new PeriodGates();
        x.cut(15);
        Check.due(11, "dense(0, 0), no HITS", x.dense(0, 0), Check.far(Check.NOT));
        Check.due(11, "dense(2, 0), BAD ahead of NOT", x.dense(2, 0), Check.far(Check.BAD));
        x.hit(20, 7);
        Check.due(11, "dense(0, 0), 0 by 1", x.dense(0, 0), 0);
        Check.due(11, "dense(0, 1), 0 by 1", x.dense(0, 1), 1);
        x.hit(3, 2);
        Check.due(11, "dense(0, 0), 120 by 9", x.dense(0, 0), 40);
        Check.due(11, "dense(0, 1)", x.dense(0, 1), 3);
        Check.due(11, "dense(1, 0), 420 by 9", x.dense(1, 0), 140);
        Check.due(11, "dense(1, 1)", x.dense(1, 1), 3);
        Check.due(11, "dense(-1, 0)", x.dense(-1, 0), Check.far(Check.BAD));
        Check.due(11, "dense(0, 2)", x.dense(0, 2), Check.far(Check.BAD));
        Check.due(11, "dense(0, -1)", x.dense(0, -1), Check.far(Check.BAD));
    }

    private static void worst() {
        PeriodGates x = new PeriodGates();
        Check.due(12, "worst(), no HITS", x.worst(), Check.NOT);
        x.hit(0, 1);
        Check.due(12, "worst(), one BIN", x.worst(), 0);
        x.cut(20);
        x.cut(40);
        Check.due(12, "worst(), a CUT came", x.worst(), Check.NOT);
        x.sweep(1, 60);
        Check.due(12, "worst(), all alike", x.worst(), 0);
        x.hit(59, 30);
        // By 90 HITS: 40 / 3, 40 / 3, 100 / 3 against 20 each.
        Check.due(12, "worst(), too many", x.worst(), 2);
        x.fresh();
        x.hit(0, 15);
        x.hit(59, 15);
        Check.due(12, "worst(), too few", x.worst(), 1);
        x.fresh();
        x.hit(20, 1);
        x.hit(0, 1);
        Check.due(12, "worst(): 30, 30, 0", x.worst(), 2);
        x.fresh();
        x.hit(20, 1);
        x.hit(40, 2);
        Check.due(12, "worst(): 0, 20, 40, of like ones the least", x.worst(), 0);
    }
}
