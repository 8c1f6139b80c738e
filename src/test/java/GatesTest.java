/** Promises 21 to 26. */
public final class GatesTest {
    public static void main(String[] args) {
        gateAndBack();
        where();
        whereAnew();
        frequency();
        closing();
        chain();
        chainMended();
        Check.end("GatesTest");
    }

    private static void gateAndBack() {
        PeriodGates x = new PeriodGates();
        Check.due(22, "back(), there is none", x.back(), Check.NOT);
        int[][] bad = {{-1, 5}, {5, 5}, {6, 5}, {0, 6000}, {5999, 6000}, {0, -1}};
        for (int[] b : bad) {
            Check.due(21, "gate, BAD", x.gate(b[0], b[1]), Check.BAD);
        }
        Check.due(21, "gate(0, 5999)", x.gate(0, 5999), 0);
        Check.due(21, "gate(5998, 5999)", x.gate(5998, 5999), 1);
        for (int g = 2; g < 8; g++) {
            Check.due(21, "gate(0, 1)", x.gate(0, 1), g);
        }
        Check.due(21, "gate(0, 1), there are 8", x.gate(0, 1), Check.FULL);
        Check.due(21, "gate(1, 1), BAD ahead of FULL", x.gate(1, 1), Check.BAD);
        Check.due(22, "back()", x.back(), 7);
        Check.due(22, "where(7, 0)", x.where(7, 0), Check.BAD);
        Check.due(21, "gate(3, 4)", x.gate(3, 4), 7);
        for (int left = 7; left >= 0; left--) {
            Check.due(22, "back()", x.back(), left);
        }
        Check.due(22, "back()", x.back(), Check.NOT);
    }

    private static void whereIs(PeriodGates x, int g, int opens, int closes, int periods) {
        Check.due(23, "where(" + g + ", 0)", x.where(g, 0), opens);
        Check.due(23, "where(" + g + ", 1)", x.where(g, 1), closes);
        Check.due(23, "where(" + g + ", 2)", x.where(g, 2), periods);
    }

    private static void where() {
        PeriodGates x = new PeriodGates();
        x.gate(100, 300);
        whereIs(x, 0, -1, -1, -1);
        Check.edgesAt(x, 100, 160, 300, 900);
        x.gate(101, 301);
        x.gate(101, 160);
        x.gate(901, 902);
        x.gate(900, 950);
        x.gate(301, 900);
        x.gate(0, 100);
        whereIs(x, 0, 0, 2, 2);
        whereIs(x, 1, 1, 3, 2);
        whereIs(x, 2, 1, -1, -1);
        whereIs(x, 3, -1, -1, -1);
        whereIs(x, 4, 3, -1, -1);
        whereIs(x, 5, 3, -1, -1);
        whereIs(x, 6, 0, -1, -1);
        x.nominal(60);
        whereIs(x, 1, 1, 3, 2);
        x.mend(1);
        // STAMPS 90, 150, 330, 930: LOST 0, 2, 9.
        whereIs(x, 0, 0, 2, 4);
        whereIs(x, 1, 1, 3, 13);
        x.gone(1);
        whereIs(x, 0, 0, 1, 4);
        Check.due(23, "where(-1, 0)", x.where(-1, 0), Check.BAD);
        Check.due(23, "where(7, 0)", x.where(7, 0), Check.BAD);
        Check.due(23, "where(0, -1)", x.where(0, -1), Check.BAD);
        Check.due(23, "where(0, 3)", x.where(0, 3), Check.BAD);
    }

    /** Each change is seen by the call behind it, though there was one ahead of it. */
    private static void whereAnew() {
        PeriodGates x = new PeriodGates();
        x.edges(0, 100, 5);
        x.gate(0, 100);
        whereIs(x, 0, 0, 1, 1);
        x.gate(150, 301);
        whereIs(x, 1, 2, 4, 2);
        x.back();
        x.gate(401, 402);
        whereIs(x, 1, -1, -1, -1);
        x.edge(405);
        whereIs(x, 1, 5, -1, -1);
        x.gone(0);
        whereIs(x, 0, 0, -1, -1);
    }

    private static void frequencyIs(PeriodGates x, int g, int of, long above, long below) {
        Check.due(24, "frequency(" + g + ", " + of + ", 0)", x.frequency(g, of, 0), above);
        Check.due(24, "frequency(" + g + ", " + of + ", 1)", x.frequency(g, of, 1), below);
    }

    private static void frequency() {
        PeriodGates x = new PeriodGates();
        x.gate(0, 200);
        long not = Check.far(Check.NOT);
        long bad = Check.far(Check.BAD);
        frequencyIs(x, 0, 0, not, not);
        x.cut(20);
        Check.edgesAt(x, 10, 130, 250);
        // STAMPS 15, 135, 255 by line; BOUNDS 0 to 19, 120 to 139, 240 to 259.
        frequencyIs(x, 0, 0, 1, 120);
        frequencyIs(x, 0, 1, 2, 259);
        frequencyIs(x, 0, 2, 2, 221);
        frequencyIs(x, 0, 3, 1, 120);
        x.gone(2);
        x.edge(260);
        // Its CODE is 1, its STAMP 285, its BOUNDS 260 to 299.
        frequencyIs(x, 0, 0, 1, 135);
        frequencyIs(x, 0, 1, 2, 299);
        frequencyIs(x, 0, 2, 2, 241);
        frequencyIs(x, 0, 3, 1, 125);
        x.cut(30);
        // STAMPS 10 and 270 by 3 BINS: 2 by 260.
        frequencyIs(x, 0, 0, 1, 130);
        x.edge(0);
        x.gate(0, 5);
        // Both in one BIN.
        frequencyIs(x, 1, 0, not, not);
        frequencyIs(x, 1, 1, 1, 19);
        frequencyIs(x, 1, 2, not, not);
        frequencyIs(x, 1, 3, 1, 10);
        x.clear();
        Check.edgesAt(x, 4, 5);
        frequencyIs(x, 1, 3, 1, 1);
        int[][] wrong = {{-1, 0, 0}, {2, 0, 0}, {0, -1, 0}, {0, 4, 0}, {0, 0, -1}, {0, 0, 2}};
        for (int[] w : wrong) {
            Check.due(24, "frequency, BAD", x.frequency(w[0], w[1], w[2]), bad);
        }
        x.clear();
        Check.due(24, "frequency(0, 4, 0), BAD ahead of NOT", x.frequency(0, 4, 0), bad);
        Check.due(24, "frequency(0, 3, 0), no EDGES", x.frequency(0, 3, 0), not);
    }

    private static void closing() {
        PeriodGates x = new PeriodGates();
        Check.due(25, "closing(0), no GATES", x.closing(0), Check.BAD);
        x.edges(0, 100, 10);
        x.gate(950, 960);
        x.gate(100, 500);
        x.gate(850, 899);
        x.gate(0, 500);
        x.gate(100, 450);
        x.gate(0, 400);
        x.gate(300, 300 + 600);
        x.gate(1, 1000);
        int[] due = {5, 3, 1, 4, 6, 0, 2, 7};
        for (int k = 0; k < due.length; k++) {
            Check.due(25, "closing(" + k + ")", x.closing(k), due[k]);
        }
        Check.due(25, "closing(8)", x.closing(8), Check.BAD);
        Check.due(25, "closing(-1)", x.closing(-1), Check.BAD);
        x.edge(1000);
        Check.due(25, "closing(4), one EDGE more", x.closing(4), 6);
        Check.due(25, "closing(5), one EDGE more", x.closing(5), 7);
        Check.due(25, "closing(6), one EDGE more", x.closing(6), 0);
        x.back();
        Check.due(25, "closing(7), one GATE less", x.closing(7), Check.BAD);
        x.clear();
        for (int k = 0; k < 7; k++) {
            Check.due(25, "closing(" + k + "), none CLOSES", x.closing(k), k);
        }
    }

    private static void chain() {
        PeriodGates x = new PeriodGates();
        Check.due(26, "chain(1, 0, 3), no EDGES", x.chain(1, 0, 3), 0);
        Check.due(26, "chain(1, 0, 4), no EDGES", x.chain(1, 0, 4), 0);
        Check.due(26, "chain(1, 0, 0), no EDGES", x.chain(1, 0, 0), Check.BAD);
        Check.edgesAt(x, 59, 60, 119, 180, 239, 240, 5999);
        // COARSE 0, 1, 1, 3, 3, 4, 99.
        int[][] links = {{0, 1, 1}, {1, 3, 2}, {3, 5, 2}, {5, 6, 1}};
        for (int k = 0; k < links.length; k++) {
            for (int what = 0; what <= 2; what++) {
                Check.due(26, "chain(1, " + k + ", " + what + ")", x.chain(1, k, what), links[k][what]);
            }
        }
        Check.due(26, "chain(1, 4, 0)", x.chain(1, 4, 0), Check.BAD);
        Check.due(26, "chain(1, -1, 0)", x.chain(1, -1, 0), Check.BAD);
        Check.due(26, "chain(1, -7, 3)", x.chain(1, -7, 3), 4);
        Check.due(26, "chain(1, 99, 4)", x.chain(1, 99, 4), 6);
        Check.due(26, "chain(2, 0, 3)", x.chain(2, 0, 3), 2);
        Check.due(26, "chain(2, 0, 1)", x.chain(2, 0, 1), 3);
        Check.due(26, "chain(3, 0, 1)", x.chain(3, 0, 1), 3);
        Check.due(26, "chain(4, 0, 1)", x.chain(4, 0, 1), 5);
        Check.due(26, "chain(5, 0, 1)", x.chain(5, 0, 1), 6);
        Check.due(26, "chain(99, 0, 1)", x.chain(99, 0, 1), 6);
        Check.due(26, "chain(99, 0, 3)", x.chain(99, 0, 3), 1);
        int[][] wrong = {{0, 0, 3}, {100, 0, 3}, {-1, 0, 4}, {1, 0, -1}, {1, 0, 5}};
        for (int[] w : wrong) {
            Check.due(26, "chain, BAD", x.chain(w[0], w[1], w[2]), Check.BAD);
        }
        x.gone(6);
        Check.due(26, "chain(5, 0, 3)", x.chain(5, 0, 3), 0);
        Check.due(26, "chain(3, 0, 4), what is open does not count", x.chain(3, 0, 4), 3);
    }

    private static void chainMended() {
        PeriodGates x = new PeriodGates();
        Check.edgesAt(x, 0, 60, 240, 300);
        x.nominal(60);
        Check.due(26, "chain(2, 0, 2)", x.chain(2, 0, 2), 2);
        x.mend(1);
        Check.due(26, "chain(2, 0, 2), mended", x.chain(2, 0, 2), 4);
        Check.due(26, "chain(1, 0, 4), mended", x.chain(1, 0, 4), 5);
        Check.due(26, "chain(1, 0, 3), mended", x.chain(1, 0, 3), 3);
    }
}
