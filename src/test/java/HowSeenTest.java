/** Promises 13 to 20. */
public final class HowSeenTest {
    public static void main(String[] args) {
        typeAndWipe();
        mode();
        nominal();
        mend();
        seen();
        lost();
        noReference();
        stamp();
        reference();
        seenAnew();
        Check.end("HowSeenTest");
    }

    private static void typeAndWipe() {
        PeriodGates x = new PeriodGates();
        Check.due(14, "wipe(), it is empty", x.wipe(), 0);
        Check.due(13, "type(-1)", x.type(-1), Check.BAD);
        Check.due(13, "type(256)", x.type(256), Check.BAD);
        Check.due(13, "type(0)", x.type(0), 1);
        Check.due(13, "type(255)", x.type(255), 2);
        Check.due(14, "wipe()", x.wipe(), 2);
        Check.due(14, "count(7)", x.count(7), 0);
        for (int k = 1; k <= 5; k++) {
            Check.due(13, "type(107)", x.type(107), k);
        }
        Check.due(13, "type(107), there are 5", x.type(107), Check.FULL);
        Check.due(13, "type(256), BAD ahead of FULL", x.type(256), Check.BAD);
        Check.due(13, "count(7)", x.count(7), 5);
        Check.due(14, "wipe()", x.wipe(), 5);
        Check.due(13, "type(1)", x.type(1), 1);
    }

    private static int modeOf(String text) {
        PeriodGates x = new PeriodGates();
        Check.type(x, text);
        return x.mode();
    }

    private static void mode() {
        Check.due(15, "mode()", modeOf(""), 0);
        Check.due(15, "mode() of dense, no HITS", modeOf("dense"), 1);
        Check.due(15, "mode() of known", modeOf("known"), 2);
        for (String other : new String[] {"line", "know", "dens", "Known", "DENSE", "knowm", "densf", "jnown", "eense"}) {
            Check.due(15, "mode() of " + other, modeOf(other), 0);
        }
        PeriodGates x = new PeriodGates();
        Check.type(x, "known");
        x.wipe();
        Check.due(15, "mode() behind wipe()", x.mode(), 0);
        Check.type(x, "dense");
        Check.due(15, "mode() of dense behind wipe()", x.mode(), 1);
    }

    private static void nominal() {
        PeriodGates x = new PeriodGates();
        Check.due(16, "nominal(-1)", x.nominal(-1), Check.BAD);
        Check.due(16, "nominal(601)", x.nominal(601), Check.BAD);
        Check.due(16, "nominal(600)", x.nominal(600), 0);
        Check.due(16, "nominal(601)", x.nominal(601), Check.BAD);
        Check.due(16, "nominal(7)", x.nominal(7), 600);
        Check.due(16, "nominal(0)", x.nominal(0), 7);
        Check.due(16, "nominal(0)", x.nominal(0), 0);
    }

    private static void mend() {
        PeriodGates x = new PeriodGates();
        Check.due(17, "mend(-1)", x.mend(-1), Check.BAD);
        Check.due(17, "mend(2)", x.mend(2), Check.BAD);
        Check.due(17, "mend(1)", x.mend(1), 0);
        Check.due(17, "mend(2)", x.mend(2), Check.BAD);
        Check.due(17, "mend(1)", x.mend(1), 1);
        Check.due(17, "mend(0)", x.mend(0), 1);
        Check.due(17, "mend(0)", x.mend(0), 0);
    }

    private static void seen() {
        PeriodGates x = new PeriodGates();
        Check.due(18, "seen(0, 0), no EDGES", x.seen(0, 0), Check.BAD);
        x.cut(10);
        x.cut(30);
        Check.edgesAt(x, 75, 5999, 0, 69, 149, 150);
        int[][] due = {
            {0, 0, 0, 0, 9}, {69, 1, 0, 60, 69}, {75, 1, 1, 70, 89}, {149, 2, 1, 130, 149}, {150, 2, 2, 150, 179},
            {5999, 99, 2, 5970, 5999}
        };
        for (int i = 0; i < due.length; i++) {
            for (int what = 0; what < 5; what++) {
                Check.due(18, "seen(" + i + ", " + what + ")", x.seen(i, what), due[i][what]);
            }
            Check.due(18, "seen(" + i + ", 5)", x.seen(i, 5), i);
        }
        Check.due(18, "seen(5, 6), the last", x.seen(5, 6), Check.NONE);
        Check.due(18, "seen(5, 7), the last", x.seen(5, 7), 0);
        Check.due(18, "seen(-1, 0)", x.seen(-1, 0), Check.BAD);
        Check.due(18, "seen(6, 0)", x.seen(6, 0), Check.BAD);
        Check.due(18, "seen(0, -1)", x.seen(0, -1), Check.BAD);
        Check.due(18, "seen(0, 8)", x.seen(0, 8), Check.BAD);
        x.gone(5);
        Check.due(18, "seen(4, 6), the last now", x.seen(4, 6), Check.NONE);
    }

    /** One BIN: GAPS are 60 and 240. */
    private static void lost() {
        PeriodGates x = new PeriodGates();
        Check.edgesAt(x, 0, 60, 300);
        int[][] due = {
            // NOMINAL, LOST behind EDGE 0, behind EDGE 1, BREAK behind EDGE 1
            {0, 0, 3, 0}, {40, 1, 5, 0}, {41, 0, 5, 0}, {60, 0, 3, 0}, {120, 0, 1, 0}, {160, 0, 1, 0}, {161, 0, 0, 0},
            {600, 0, 0, 0}, {25, 1, 9, 0}, {24, 2, 9, 0}, {23, 2, 9, 0}, {22, 2, 9, 1}, {6, 9, 9, 1}, {1, 9, 9, 1}
        };
        for (int[] row : due) {
            x.nominal(row[0]);
            String told = "with NOMINAL " + row[0] + " ";
            for (int mend = 0; mend <= 1; mend++) {
                x.mend(mend);
                Check.due(18, told + "seen(0, 6)", x.seen(0, 6), row[1]);
                Check.due(18, told + "seen(1, 6)", x.seen(1, 6), row[2]);
                Check.due(18, told + "seen(1, 7)", x.seen(1, 7), row[3]);
                Check.due(18, told + "seen(0, 5)", x.seen(0, 5), 0);
                Check.due(18, told + "seen(1, 5)", x.seen(1, 5), 1 + mend * row[1]);
                Check.due(18, told + "seen(2, 5)", x.seen(2, 5), 2 + mend * (row[1] + row[2]));
                Check.due(40, told + "count(4)", x.count(4), row[1] + row[2]);
            }
        }
        Check.due(18, "seen(0, 7) with NOMINAL 1", x.seen(0, 7), 1);
        x.nominal(6);
        Check.due(18, "seen(0, 7) with NOMINAL 6: 10 less 1", x.seen(0, 7), 0);
    }

    private static void noReference() {
        PeriodGates x = new PeriodGates();
        Check.edgesAt(x, 0, 1, 2, 5000);
        x.mend(1);
        Check.due(20, "reference(0), the MEDIAN is 0", x.reference(0), 0);
        Check.due(20, "reference(1), 0 by 1", x.reference(1), 1);
        for (int i = 0; i < 3; i++) {
            Check.due(18, "seen(" + i + ", 6), REFERENCE is 0", x.seen(i, 6), 0);
            Check.due(18, "seen(" + i + ", 7), REFERENCE is 0", x.seen(i, 7), 0);
        }
        Check.due(18, "seen(3, 5), REFERENCE is 0", x.seen(3, 5), 3);
        Check.due(40, "count(5), REFERENCE is 0", x.count(5), 0);
    }

    private static void stampIs(PeriodGates x, int i, long above, long below) {
        Check.due(19, "stamp(" + i + ", 0)", x.stamp(i, 0), above);
        Check.due(19, "stamp(" + i + ", 1)", x.stamp(i, 1), below);
    }

    private static void stamp() {
        PeriodGates x = new PeriodGates();
        Check.due(19, "stamp(0, 0), no EDGES", x.stamp(0, 0), Check.far(Check.BAD));
        x.edge(75);
        x.edge(59);
        stampIs(x, 0, 30, 1);
        stampIs(x, 1, 90, 1);
        x.cut(10);
        x.cut(30);
        stampIs(x, 0, 50, 1);
        stampIs(x, 1, 90, 1);
        x.cut(11);
        stampIs(x, 0, 105, 2);
        x.cut(11);
        Check.type(x, "dense");
        stampIs(x, 0, 50, 1);
        x.hit(0, 1);
        x.hit(10, 2);
        x.hit(59, 4);
        stampIs(x, 0, 300, 7);
        stampIs(x, 1, 540, 7);
        x.fresh();
        x.hit(0, 1);
        stampIs(x, 0, 60, 1);
        stampIs(x, 1, 120, 1);
        x.wipe();
        stampIs(x, 0, 50, 1);
        Check.type(x, "known");
        stampIs(x, 0, 45, 1);
        stampIs(x, 1, 80, 1);
        x.cut(31);
        x.cut(59);
        x.cut(30);
        // BINS: 0 to 9, 10 to 30, 31 to 58, 59 alone.
        stampIs(x, 0, 119, 2);
        stampIs(x, 1, 161, 2);
        x.wipe();
        x.type('x');
        stampIs(x, 0, 105, 2);
        Check.due(19, "stamp(2, 0)", x.stamp(2, 0), Check.far(Check.BAD));
        Check.due(19, "stamp(-1, 0)", x.stamp(-1, 0), Check.far(Check.BAD));
        Check.due(19, "stamp(0, 2)", x.stamp(0, 2), Check.far(Check.BAD));
        Check.due(19, "stamp(0, -1)", x.stamp(0, -1), Check.far(Check.BAD));
    }

    private static void reference() {
        PeriodGates x = new PeriodGates();
        Check.due(20, "reference(0), no GAPS", x.reference(0), Check.far(Check.NOT));
        Check.due(20, "reference(2), BAD ahead of NOT", x.reference(2), Check.far(Check.BAD));
        Check.due(20, "reference(-1)", x.reference(-1), Check.far(Check.BAD));
        x.edge(0);
        Check.due(20, "reference(1), one EDGE", x.reference(1), Check.far(Check.NOT));
        x.nominal(77);
        Check.due(20, "reference(0), NOMINAL", x.reference(0), 77);
        Check.due(20, "reference(1), NOMINAL", x.reference(1), 1);
        x.nominal(0);
        x.edge(100);
        Check.due(20, "reference(0), of one", x.reference(0), 60);
        Check.due(20, "reference(1), of one", x.reference(1), 1);
        Check.edgesAt(x, 300, 600);
        // GAPS 60, 240, 300
        Check.due(20, "reference(0), of three", x.reference(0), 240);
        x.edge(700);
        // GAPS 60, 240, 300, 60
        Check.due(20, "reference(0), of four", x.reference(0), 60);
        x.gone(4);
        x.gone(3);
        // GAPS 60, 240
        Check.due(20, "reference(0), of two", x.reference(0), 60);
        Check.due(20, "reference(1)", x.reference(1), 1);
        for (int fine = 1; fine <= 6; fine++) {
            x.cut(fine);
        }
        // By 7 BINS codes are 0, 6, 0: the GAPS are 60 + 360 / 7 and 240 - 360 / 7.
        Check.due(20, "reference(0), a FRACTION", x.reference(0), 780);
        Check.due(20, "reference(1), a FRACTION", x.reference(1), 7);
        x.nominal(6);
        Check.due(20, "reference(0), NOMINAL with BINS", x.reference(0), 6);
        Check.due(20, "reference(1), NOMINAL with BINS", x.reference(1), 1);
        PeriodGates y = new PeriodGates();
        Check.edgesAt(y, 0, 360, 660, 900, 1080, 1200);
        // GAPS 360, 300, 240, 180, 120
        Check.due(20, "reference(0), GAPS in falling order", y.reference(0), 240);
        y.gone(5);
        Check.due(20, "reference(0), GAPS in falling order", y.reference(0), 240);
        y.gone(4);
        Check.due(20, "reference(0), GAPS in falling order", y.reference(0), 300);
    }

    /** Each change is seen by the call behind it, though there was one ahead of it. */
    private static void seenAnew() {
        PeriodGates x = new PeriodGates();
        Check.type(x, "dense");
        x.cut(30);
        x.edge(0);
        stampIs(x, 0, 15, 1);
        x.edges(90, 60, 2);
        Check.due(3, "reference(0) behind edges()", x.reference(0), 60);
        Check.due(3, "stamp(1, 0) behind edges()", x.stamp(1, 0), 105);
        x.sweep(30, 3);
        stampIs(x, 0, 20, 1);
        x.fresh();
        stampIs(x, 0, 15, 1);
        x.hit(59, 1);
        stampIs(x, 0, 0, 1);
        x.cut(30);
        stampIs(x, 0, 30, 1);
        x.clear();
        Check.due(5, "reference(0) behind clear()", x.reference(0), Check.far(Check.NOT));
        Check.due(5, "count(6) behind clear()", x.count(6), 0);
    }
}
