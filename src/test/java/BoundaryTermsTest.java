/** What the document says ahead of its promises: each sentence at its boundaries. */
public final class BoundaryTermsTest {
    private static final int TERMS = Sentences.TERMS;

    public static void main(String[] args) {
        edgesAndTimes();
        coarseAndFine();
        cutsAndBins();
        bounds();
        hits();
        mode();
        stampByLine();
        stampByDense();
        stampByKnown();
        fractions();
        gaps();
        median();
        lost();
        breaks();
        places();
        sheets();
        findings();
        gates();
        frequencies();
        closingOrder();
        chain();
        fit();
        off();
        gain();
        variance();
        rank();
        widths();
        refusals();
        Sentences.end("BoundaryTermsTest", TERMS, TERMS);
    }

    private static void of(String words) {
        Sentences.of(TERMS, words);
    }

    private static void due(String call, long got, long want) {
        Sentences.due(call, got, want);
    }

    private static PeriodGates withCuts(int... fines) {
        PeriodGates x = new PeriodGates();
        for (int fine : fines) {
            x.cut(fine);
        }
        return x;
    }

    private static void stampIs(PeriodGates x, int i, long above, long below) {
        due("stamp(" + i + ", 0)", x.stamp(i, 0), above);
        due("stamp(" + i + ", 1)", x.stamp(i, 1), below);
    }

    private static void edgesAndTimes() {
        of("EDGES are at TIMES 0 to 5999, one at most at each, 32 at most; their numbers are 0 on, by TIMES.");
        PeriodGates x = new PeriodGates();
        due("edge(-1)", x.edge(-1), Check.BAD);
        due("edge(6000)", x.edge(6000), Check.BAD);
        due("edge(5999)", x.edge(5999), 0);
        due("edge(0)", x.edge(0), 0);
        due("edge(5999), there is one", x.edge(5999), Check.NOT);
        due("edge(0), there is one", x.edge(0), Check.NOT);
        for (int k = 30; k >= 1; k--) {
            due("edge(" + 10 * k + ")", x.edge(10 * k), 1);
        }
        due("edge(5), there are 32", x.edge(5), Check.FULL);
        due("count(0)", x.count(0), 32);
        for (int i = 0; i <= 30; i++) {
            due("seen(" + i + ", 0)", x.seen(i, 0), 10 * i);
        }
        due("seen(31, 0)", x.seen(31, 0), 5999);
        due("seen(32, 0)", x.seen(32, 0), Check.BAD);
        of("An object is used for at most 512 calls after it has been made; what later calls answer is free.");
        PeriodGates y = new PeriodGates();
        for (int call = 1; call < 512; call += 2) {
            due("edge(7) as call " + call, y.edge(7), 0);
            due("gone(0) as call " + (call + 1), y.gone(0), 7);
        }
    }

    private static void coarseAndFine() {
        of("COARSE of a TIME: it by 60, cut; FINE: what is left.");
        PeriodGates x = withCuts(1, 59);
        int[][] rows = {
            // TIME, COARSE, and a CODE that tells whether FINE is 0, between, 59
            {0, 0, 0}, {1, 0, 1}, {58, 0, 1}, {59, 0, 2}, {60, 1, 0}, {119, 1, 2}, {5939, 98, 2}, {5940, 99, 0}, {5999, 99, 2}
        };
        for (int[] row : rows) {
            x.edge(row[0]);
            due("seen(0, 1) at " + row[0], x.seen(0, 1), row[1]);
            due("seen(0, 2) at " + row[0], x.seen(0, 2), row[2]);
            x.clear();
        }
    }

    private static void cutsAndBins() {
        of("CUTS are some of 1 to 59, 11 at most (none at first).");
        PeriodGates x = new PeriodGates();
        due("count(1) at first", x.count(1), 1);
        due("cut(0)", x.cut(0), Check.BAD);
        due("cut(60)", x.cut(60), Check.BAD);
        due("cut(1)", x.cut(1), 2);
        due("cut(59)", x.cut(59), 3);
        for (int k = 2; k <= 10; k++) {
            due("cut(" + k + ")", x.cut(k), k + 2);
        }
        due("cut(11), there are 11", x.cut(11), Check.FULL);
        due("count(1)", x.count(1), 12);
        of("BINS: one more than CUTS; CODE of a FINE: how many CUTS are no greater than it.");
        PeriodGates y = withCuts(40, 20);
        due("count(1)", y.count(1), 3);
        Check.edgesAt(y, 0, 19, 20, 39, 40, 59);
        for (int i = 0; i < 6; i++) {
            due("seen(" + i + ", 2)", y.seen(i, 2), i / 2);
        }
        due("seen(0, 2), no CUTS", Check.withEdges(59).seen(0, 2), 0);
        of("Of an EDGE no more than COARSE and CODE are seen.");
        PeriodGates low = withCuts(30);
        PeriodGates high = withCuts(30);
        Check.edgesAt(low, 0, 90, 120);
        Check.edgesAt(high, 29, 119, 149);
        for (PeriodGates z : new PeriodGates[] {low, high}) {
            z.gate(0, 120);
            stampIs(z, 0, 15, 1);
            stampIs(z, 1, 105, 1);
            stampIs(z, 2, 135, 1);
            due("frequency(0, 0, 1)", z.frequency(0, 0, 1), 60);
            due("frequency(0, 1, 1)", z.frequency(0, 1, 1), 149);
            due("frequency(0, 2, 1)", z.frequency(0, 2, 1), 91);
            due("chain(2, 0, 1)", z.chain(2, 0, 1), 2);
        }
    }

    private static void boundsAre(PeriodGates x, int i, int least, int greatest) {
        due("seen(" + i + ", 3)", x.seen(i, 3), least);
        due("seen(" + i + ", 4)", x.seen(i, 4), greatest);
    }

    private static void bounds() {
        of("BOUNDS: the least, the greatest TIME with both.");
        PeriodGates x = Check.withEdges(0, 1, 58, 119, 5998, 5999);
        boundsAre(x, 0, 0, 59);
        boundsAre(x, 3, 60, 119);
        boundsAre(x, 5, 5940, 5999);
        x.cut(1);
        boundsAre(x, 0, 0, 0);
        boundsAre(x, 1, 1, 59);
        boundsAre(x, 5, 5941, 5999);
        x.cut(59);
        boundsAre(x, 2, 1, 58);
        boundsAre(x, 3, 119, 119);
        boundsAre(x, 4, 5941, 5998);
        boundsAre(x, 5, 5999, 5999);
    }

    private static void hits() {
        of("HITS of a BIN: how often a FINE of it was hit; 400 at most, all together; when a CUT comes or goes, there are none.");
        PeriodGates x = withCuts(30);
        x.sweep(1, 398);
        due("hit(29, 1)", x.hit(29, 1), 211);
        due("hit(30, 2), they would be 401", x.hit(30, 2), Check.FULL);
        due("sweep(1, 2), they would be 401", x.sweep(1, 2), Check.FULL);
        due("hit(30, 1), they are 400", x.hit(30, 1), 189);
        due("count(2)", x.count(2), 400);
        due("cut(31) comes", x.cut(31), 3);
        for (int b = 0; b < 3; b++) {
            due("bin(" + b + ", 2), a CUT came", x.bin(b, 2), 0);
        }
        due("count(2), a CUT came", x.count(2), 0);
        due("hit(0, 99)", x.hit(0, 99), 99);
        due("hit(31, 99)", x.hit(31, 99), 99);
        due("cut(30) goes", x.cut(30), 2);
        due("bin(0, 2), a CUT went", x.bin(0, 2), 0);
        due("bin(1, 2), a CUT went", x.bin(1, 2), 0);
        due("count(2), a CUT went", x.count(2), 0);
    }

    private static int modeOf(int... bytes) {
        PeriodGates x = new PeriodGates();
        for (int b : bytes) {
            x.type(b);
        }
        return x.mode();
    }

    private static void mode() {
        of("MODE is a text of up to 5 bytes: known, dense; with any other text, or an empty one, it is line.");
        due("mode(), empty", modeOf(), 0);
        due("mode() of known", modeOf('k', 'n', 'o', 'w', 'n'), 2);
        due("mode() of dense", modeOf('d', 'e', 'n', 's', 'e'), 1);
        due("mode() of dense and one more, which is refused", modeOf('d', 'e', 'n', 's', 'e', 's'), 1);
        due("mode() of know", modeOf('k', 'n', 'o', 'w'), 0);
        due("mode() of dens", modeOf('d', 'e', 'n', 's'), 0);
        due("mode() of line", modeOf('l', 'i', 'n', 'e'), 0);
        for (String name : new String[] {"known", "dense"}) {
            for (int k = 0; k < 5; k++) {
                int[] bytes = name.chars().toArray();
                bytes[k] += 128;
                due("mode() of " + name + ", byte " + k + " with its top bit", modeOf(bytes), 0);
                bytes[k] = Character.toUpperCase(name.charAt(k));
                due("mode() of " + name + ", byte " + k + " as a capital", modeOf(bytes), 0);
            }
        }
        PeriodGates x = new PeriodGates();
        Check.type(x, "xxxxx");
        due("type(120), there are 5", x.type(120), Check.FULL);
    }

    private static void stampByLine() {
        of("STAMP of an EDGE: 60 COARSE and, by line, 60 times CODE and a half, by how many BINS there are;");
        PeriodGates x = Check.withEdges(0, 5999);
        stampIs(x, 0, 30, 1);
        stampIs(x, 1, 5970, 1);
        for (int k = 1; k <= 10; k++) {
            x.cut(k);
        }
        // 11 BINS: a half, and 10 and a half.
        stampIs(x, 0, 30, 11);
        stampIs(x, 1, 5940 * 11 + 630, 11);
        x.cut(59);
        stampIs(x, 0, 5, 2);
        stampIs(x, 1, 11995, 2);
    }

    private static void stampByDense() {
        of("by dense 60 times HITS of all BINS below CODE and half of its own together, by all HITS"
            + " (with no HITS as by line);");
        PeriodGates x = withCuts(10, 20);
        Check.edgesAt(x, 0, 10, 20);
        Check.type(x, "dense");
        stampIs(x, 0, 10, 1);
        stampIs(x, 1, 30, 1);
        stampIs(x, 2, 50, 1);
        x.hit(10, 1);
        stampIs(x, 0, 0, 1);
        stampIs(x, 1, 30, 1);
        stampIs(x, 2, 60, 1);
        for (int k = 0; k < 4; k++) {
            x.hit(0, 99);
        }
        x.hit(20, 3);
        // 396, 1, 3 of 400.
        stampIs(x, 0, 297, 10);
        stampIs(x, 1, 2379, 40);
        stampIs(x, 2, 2391, 40);
        x.fresh();
        stampIs(x, 0, 10, 1);
    }

    private static void stampByKnown() {
        of("by known halfway between the least FINE of its BIN and the least of the next one (60 behind the last).");
        PeriodGates x = Check.withEdges(0, 58, 59, 5999);
        Check.type(x, "known");
        stampIs(x, 0, 30, 1);
        stampIs(x, 3, 5970, 1);
        x.cut(59);
        stampIs(x, 1, 59, 2);
        stampIs(x, 2, 119, 2);
        stampIs(x, 3, 11999, 2);
        x.cut(1);
        stampIs(x, 0, 1, 2);
        stampIs(x, 1, 30, 1);
        x.hit(0, 5);
        stampIs(x, 0, 1, 2);
    }

    private static void fractions() {
        of("FRACTIONS are told in lowest terms, above and below (below above 0; 0 by 1).");
        PeriodGates x = Check.withEdges(0, 1, 2, 3, 4);
        x.cut(30);
        x.hit(30, 4);
        Check.type(x, "dense");
        x.gate(0, 4);
        stampIs(x, 0, 0, 1);
        due("dense(0, 0)", x.dense(0, 0), 0);
        due("dense(0, 1)", x.dense(0, 1), 1);
        due("reference(0)", x.reference(0), 0);
        due("reference(1)", x.reference(1), 1);
        due("fit(0, 4, 0)", x.fit(0, 4, 0), 0);
        due("fit(0, 4, 1)", x.fit(0, 4, 1), 1);
        due("variance(2, 0)", x.variance(2, 0), 0);
        due("variance(2, 1)", x.variance(2, 1), 1);
        due("frequency(0, 3, 0), 4 by 4", x.frequency(0, 3, 0), 1);
        due("frequency(0, 3, 1), 4 by 4", x.frequency(0, 3, 1), 1);
        due("gain(3, 0), 12 by 12", x.gain(3, 0), 1);
        due("gain(3, 1), 12 by 12", x.gain(3, 1), 1);
    }

    private static void gaps() {
        of("GAP i is STAMP of EDGE i and 1 less that of EDGE i.");
        PeriodGates x = Check.withEdges(0, 59);
        due("reference(0), one BIN", x.reference(0), 0);
        x.cut(59);
        due("reference(0), two BINS", x.reference(0), 30);
        x.gone(1);
        x.edge(60);
        due("reference(0), COARSE 0 and 1", x.reference(0), 60);
        of("NOMINAL is 0 (at first) to 600.");
        PeriodGates y = new PeriodGates();
        due("nominal(601)", y.nominal(601), Check.BAD);
        due("nominal(-1)", y.nominal(-1), Check.BAD);
        due("nominal(600), at first", y.nominal(600), 0);
        due("reference(0)", y.reference(0), 600);
        due("nominal(0)", y.nominal(0), 600);
        due("reference(0)", y.reference(0), Check.far(Check.NOT));
    }

    /** One BIN: GAPS are 60 times these. */
    private static PeriodGates withGaps(int... sixties) {
        PeriodGates x = Check.withEdges(0);
        int time = 0;
        for (int n : sixties) {
            time += 60 * n;
            x.edge(time);
        }
        return x;
    }

    private static int[] row(int many, int of, int more, int ofThem, int rest, int ofThose) {
        int[] all = new int[many + more + rest];
        java.util.Arrays.fill(all, 0, many, of);
        java.util.Arrays.fill(all, many, many + more, ofThem);
        java.util.Arrays.fill(all, many + more, all.length, ofThose);
        return all;
    }

    private static void median() {
        of("REFERENCE: NOMINAL; if that is 0, the MEDIAN: GAPS in order of size, the one behind which there are as many"
            + " as ahead of it, or one more.");
        due("reference(0), one GAP", withGaps(7).reference(0), 420);
        due("reference(0), two GAPS", withGaps(7, 3).reference(0), 180);
        due("reference(0), two GAPS", withGaps(3, 7).reference(0), 180);
        due("reference(0), three GAPS", withGaps(7, 3, 5).reference(0), 300);
        due("reference(0), four GAPS", withGaps(7, 3, 5, 1).reference(0), 180);
        due("reference(0), 31 GAPS", withGaps(row(15, 3, 1, 2, 15, 1)).reference(0), 120);
        due("reference(0), 30 GAPS", withGaps(row(15, 3, 1, 2, 14, 1)).reference(0), 120);
        due("reference(0), 30 GAPS", withGaps(row(14, 3, 1, 2, 15, 1)).reference(0), 60);
        PeriodGates x = withGaps(7, 3, 5);
        x.nominal(1);
        due("reference(0), NOMINAL 1", x.reference(0), 1);
        x.nominal(600);
        due("reference(0), NOMINAL 600", x.reference(0), 600);
        x.nominal(0);
        due("reference(0), NOMINAL 0", x.reference(0), 300);
    }

    private static void lostIs(PeriodGates x, int nominal, int lost, int broken) {
        x.nominal(nominal);
        due("seen(0, 6) with NOMINAL " + nominal, x.seen(0, 6), lost);
        due("seen(0, 7) with NOMINAL " + nominal, x.seen(0, 7), broken);
        due("count(4) with NOMINAL " + nominal, x.count(4), lost);
        due("count(5) with NOMINAL " + nominal, x.count(5), broken);
    }

    private static void lost() {
        of("LOST in a GAP: how often REFERENCE goes into it, rounded (a half up), less 1, but 0 at least, 9 at most;");
        PeriodGates x = withGaps(1);
        lostIs(x, 600, 0, 0);
        lostIs(x, 121, 0, 0);
        lostIs(x, 120, 0, 0);
        lostIs(x, 60, 0, 0);
        lostIs(x, 41, 0, 0);
        lostIs(x, 40, 1, 0);
        lostIs(x, 25, 1, 0);
        lostIs(x, 24, 2, 0);
        lostIs(x, 7, 8, 0);
        lostIs(x, 6, 9, 0);
        lostIs(x, 1, 9, 1);
        lostIs(withGaps(9), 60, 8, 0);
        lostIs(withGaps(10), 60, 9, 0);
        lostIs(withGaps(99), 600, 9, 0);
    }

    private static void breaks() {
        of("it is a BREAK, if it were more than 9; if REFERENCE is 0, 0.");
        lostIs(withGaps(10), 60, 9, 0);
        lostIs(withGaps(11), 60, 9, 1);
        // By 12 BINS of 5 STAMPS are 5 / 2 behind each CUT: GAPS of 625 and 630 by 60.
        PeriodGates x = withCuts(5, 10, 15, 20, 25, 30, 35, 40, 45, 50, 55);
        Check.edgesAt(x, 0, 625);
        lostIs(x, 60, 9, 0);
        x.gone(1);
        x.edge(630);
        lostIs(x, 60, 9, 1);
        PeriodGates y = Check.withEdges(0, 1, 2, 5999);
        due("reference(0)", y.reference(0), 0);
        due("seen(2, 6), REFERENCE 0", y.seen(2, 6), 0);
        due("seen(2, 7), REFERENCE 0", y.seen(2, 7), 0);
        due("count(4), REFERENCE 0", y.count(4), 0);
        due("count(5), REFERENCE 0", y.count(5), 0);
    }

    private static void places() {
        of("MEND is 0 (at first) or 1.");
        PeriodGates x = withGaps(2, 1, 20, 1);
        due("mend(-1)", x.mend(-1), Check.BAD);
        due("mend(2)", x.mend(2), Check.BAD);
        due("mend(0), at first", x.mend(0), 0);
        due("mend(1)", x.mend(1), 0);
        due("mend(0)", x.mend(0), 1);
        of("PLACE of an EDGE: its number, and, if MEND is 1, LOST in all GAPS ahead of it.");
        x.nominal(60);
        int[][] due = {{0, 1, 2, 3, 4}, {0, 2, 3, 13, 14}};
        for (int mend = 0; mend <= 1; mend++) {
            x.mend(mend);
            for (int i = 0; i < 5; i++) {
                due("seen(" + i + ", 5) with MEND " + mend, x.seen(i, 5), due[mend][i]);
            }
        }
        // 31 GAPS of 180, each with 9 LOST.
        PeriodGates y = withGaps(row(31, 3, 0, 0, 0, 0));
        y.nominal(1);
        y.mend(1);
        due("seen(31, 5), 9 LOST in each GAP", y.seen(31, 5), 31 + 31 * 9);
        due("seen(0, 5)", y.seen(0, 5), 0);
        due("count(4)", y.count(4), 279);
        due("count(5)", y.count(5), 31);
    }

    private static void sheets() {
        of("SHEETS 0 .. 3 are LOST (at first) or a row of a FORM: 0 ints, 1 longs, 2 floats, 3 doubles, of 0 to 40 items"
            + " (0 at first).");
        PeriodGates x = new PeriodGates();
        for (int s = 0; s <= 3; s++) {
            due("get(" + s + ", 0), LOST", x.get(s, 0), Check.far(Check.NULL));
        }
        due("sheet(-1, 0, 0)", x.sheet(-1, 0, 0), Check.BAD);
        due("sheet(4, 0, 0)", x.sheet(4, 0, 0), Check.BAD);
        due("sheet(0, -1, 0)", x.sheet(0, -1, 0), Check.BAD);
        due("sheet(0, 4, 0)", x.sheet(0, 4, 0), Check.BAD);
        for (int s = 0; s <= 3; s++) {
            due("sheet(" + s + ", s, 0)", x.sheet(s, s, 0), 0);
            due("get(" + s + ", 0), no items", x.get(s, 0), Check.far(Check.INDEX));
            due("sheet(" + s + ", s, 41)", x.sheet(s, s, 41), Check.BAD);
            due("sheet(" + s + ", s, 40)", x.sheet(s, s, 40), 40);
            due("get(" + s + ", 0), at first", x.get(s, 0), 0);
            due("get(" + s + ", 39), at first", x.get(s, 39), 0);
            due("get(" + s + ", 40)", x.get(s, 40), Check.far(Check.INDEX));
            x.put(s, s, 39, 1000000001);
        }
        due("get(0, 39), an int", x.get(0, 39), 1000000001L);
        due("get(1, 39), a long", x.get(1, 39), 1000000001L * 100000007L);
        due("get(2, 39), a float", x.get(2, 39), 1000000000L);
        due("get(3, 39), a double", x.get(3, 39), 1000000001L);
    }

    private static void findings() {
        of("FINDINGS (answers -10 less the number; they change nothing but count() 8): 1 NULL: the SHEET is LOST;"
            + " 2 INDEX: there is no such item; 3 CAST: it has another FORM; 4 STORE: unlike FORMS; 5 SIZE: below 0.");
        PeriodGates x = new PeriodGates();
        x.sheet(1, 1, 2);
        x.sheet(2, 2, 2);
        x.put(1, 1, 1, 5);
        x.put(2, 2, 1, 6);
        due("count(8), none yet", x.count(8), 0);
        long digest = x.digest();
        due("lose(0)", x.lose(0), -11);
        due("count(8)", x.count(8), 1);
        due("put(1, 1, 2, 9)", x.put(1, 1, 2, 9), -12);
        due("count(8)", x.count(8), 2);
        due("put(1, 2, 1, 9)", x.put(1, 2, 1, 9), -13);
        due("count(8)", x.count(8), 3);
        due("copy(1, 0, 2, 0, 2)", x.copy(1, 0, 2, 0, 2), -14);
        due("count(8)", x.count(8), 4);
        due("sheet(1, 1, -1)", x.sheet(1, 1, -1), -15);
        due("count(8)", x.count(8), 5);
        due("get(1, 1), unchanged", x.get(1, 1), 500000035L);
        due("get(2, 1), unchanged", x.get(2, 1), 6);
        due("digest(), unchanged", x.digest(), digest);
        due("lose(1), unchanged", x.lose(1), 2);
    }

    private static void gateIs(PeriodGates x, int a, int b, int opens, int closes, int periods) {
        int g = x.gate(a, b);
        String gate = "of the GATE " + a + " to " + b;
        due("where(" + g + ", 0) " + gate, x.where(g, 0), opens);
        due("where(" + g + ", 1) " + gate, x.where(g, 1), closes);
        due("where(" + g + ", 2) " + gate, x.where(g, 2), periods);
        x.back();
    }

    private static void gates() {
        of("GATES, 8 at most, 0 on, each from A to B (B above A, 0 to 5999):");
        PeriodGates x = new PeriodGates();
        due("gate(-1, 0)", x.gate(-1, 0), Check.BAD);
        due("gate(0, 0)", x.gate(0, 0), Check.BAD);
        due("gate(5999, 6000)", x.gate(5999, 6000), Check.BAD);
        due("gate(0, 6000)", x.gate(0, 6000), Check.BAD);
        due("gate(5999, 5998)", x.gate(5999, 5998), Check.BAD);
        due("gate(0, 1)", x.gate(0, 1), 0);
        due("gate(5998, 5999)", x.gate(5998, 5999), 1);
        for (int g = 2; g < 8; g++) {
            due("gate(0, 5999)", x.gate(0, 5999), g);
        }
        due("gate(0, 5999), there are 8", x.gate(0, 5999), Check.FULL);
        of("it OPENS at the first EDGE at A or later, and CLOSES at the first one at B or later, if that is another one"
            + " (else it never CLOSES).");
        PeriodGates y = Check.withEdges(100, 200, 5999);
        gateIs(y, 99, 100, 0, -1, -1);
        gateIs(y, 100, 101, 0, 1, 1);
        gateIs(y, 100, 200, 0, 1, 1);
        gateIs(y, 100, 201, 0, 2, 2);
        gateIs(y, 101, 200, 1, -1, -1);
        gateIs(y, 101, 201, 1, 2, 1);
        gateIs(y, 0, 5999, 0, 2, 2);
        gateIs(y, 201, 5999, 2, -1, -1);
        y.gone(2);
        gateIs(y, 200, 201, 1, -1, -1);
        gateIs(y, 201, 5999, -1, -1, -1);
        gateIs(new PeriodGates(), 0, 5999, -1, -1, -1);
        of("PERIODS: PLACE where it CLOSES less PLACE where it OPENS.");
        PeriodGates z = withGaps(2, 20, 1);
        z.nominal(60);
        gateIs(z, 0, 121, 0, 2, 2);
        z.mend(1);
        // PLACES 0, 2, 12, 13.
        gateIs(z, 0, 121, 0, 2, 12);
        gateIs(z, 1, 1380, 1, 3, 11);
    }

    private static void frequencyIs(PeriodGates x, int of, long above, long below) {
        due("frequency(0, " + of + ", 0)", x.frequency(0, of, 0), above);
        due("frequency(0, " + of + ", 1)", x.frequency(0, of, 1), below);
    }

    private static void frequencies() {
        long not = Check.far(Check.NOT);
        of("FREQUENCY: PERIODS by STAMP there less STAMP here.");
        PeriodGates x = withCuts(59);
        x.gate(0, 59);
        Check.edgesAt(x, 0, 58);
        frequencyIs(x, 0, not, not);
        x.edge(59);
        // STAMPS 15, 15, 45.
        frequencyIs(x, 0, 1, 15);
        of("LEAST: PERIODS by the greatest BOUND there less the least here; MOST: PERIODS by the least there less the"
            + " greatest here; TRUTH: PERIODS by TIME there less TIME here.");
        // BOUNDS 0 to 58, and 59 alone.
        frequencyIs(x, 1, 2, 59);
        frequencyIs(x, 2, 2, 1);
        frequencyIs(x, 3, 2, 59);
        x.gone(0);
        frequencyIs(x, 1, 1, 59);
        frequencyIs(x, 2, 1, 1);
        frequencyIs(x, 3, 1, 1);
        PeriodGates y = Check.withEdges(0, 5);
        y.gate(0, 5);
        // Both have BOUNDS 0 to 59.
        frequencyIs(y, 1, 1, 59);
        frequencyIs(y, 2, not, not);
        frequencyIs(y, 3, 1, 5);
        y.gone(1);
        y.edge(60);
        frequencyIs(y, 1, 1, 119);
        frequencyIs(y, 2, 1, 1);
        frequencyIs(y, 3, 1, 60);
    }

    private static void orderIs(PeriodGates x, int... gates) {
        for (int k = 0; k < gates.length; k++) {
            due("closing(" + k + ")", x.closing(k), gates[k]);
        }
    }

    private static void closingOrder() {
        of("GATES CLOSE in the order of EDGES where they do, of like ones of those where they OPEN, of like ones of their"
            + " numbers; those that never CLOSE last, by numbers.");
        PeriodGates x = Check.withEdges(0, 100, 200, 300);
        x.gate(250, 300);
        x.gate(50, 150);
        x.gate(0, 150);
        x.gate(40, 110);
        x.gate(150, 160);
        x.gate(301, 302);
        x.gate(0, 250);
        x.gate(0, 1);
        // CLOSE at: never, 2, 2, 2, never, never, 3, 1; OPEN at: 3, 1, 0, 1, 2, none, 0, 0.
        orderIs(x, 7, 2, 1, 3, 6, 0, 4, 5);
        x.clear();
        orderIs(x, 0, 1, 2, 3, 4, 5, 6, 7);
    }

    private static void chain() {
        of("THE CHAIN of G (1 to 99): its first GATE OPENS at EDGE 0; each CLOSES at the first EDGE whose COARSE is greater"
            + " by G or more than that of the one where it OPENS, and there the next one OPENS; those that CLOSE are 0 on.");
        PeriodGates x = Check.withEdges(59, 60, 119, 120, 5939, 5940);
        // COARSE 0, 1, 1, 2, 98, 99.
        due("chain(0, 0, 3)", x.chain(0, 0, 3), Check.BAD);
        due("chain(100, 0, 3)", x.chain(100, 0, 3), Check.BAD);
        int[][] rows = {
            // G, k, OPENS, CLOSES
            {1, 0, 0, 1}, {1, 1, 1, 3}, {1, 2, 3, 4}, {1, 3, 4, 5}, {2, 0, 0, 3}, {2, 1, 3, 4}, {96, 0, 0, 4}, {98, 0, 0, 4},
            {99, 0, 0, 5}
        };
        for (int[] row : rows) {
            String call = "chain(" + row[0] + ", " + row[1] + ", ";
            due(call + "0)", x.chain(row[0], row[1], 0), row[2]);
            due(call + "1)", x.chain(row[0], row[1], 1), row[3]);
            due(call + "2)", x.chain(row[0], row[1], 2), row[3] - row[2]);
        }
        due("chain(1, 0, 3)", x.chain(1, 0, 3), 4);
        due("chain(2, 0, 3), the third never CLOSES", x.chain(2, 0, 3), 2);
        due("chain(99, 0, 3)", x.chain(99, 0, 3), 1);
        due("chain(1, 4, 0)", x.chain(1, 4, 0), Check.BAD);
        x.gone(5);
        due("chain(99, 0, 3), COARSE 98", x.chain(99, 0, 3), 0);
        due("chain(99, 0, 0), COARSE 98", x.chain(99, 0, 0), Check.BAD);
    }

    private static void fitIs(PeriodGates x, int i, int j, long above, long below) {
        due("fit(" + i + ", " + j + ", 0)", x.fit(i, j, 0), above);
        due("fit(" + i + ", " + j + ", 1)", x.fit(i, j, 1), below);
    }

    private static void fit() {
        of("FIT of EDGES i to j, m of them: PERIOD is m times the sum of PLACE times STAMP less the sum of PLACES times the"
            + " sum of STAMPS, by m times the sum of squares of PLACES less the square of the sum of PLACES.");
        PeriodGates x = withGaps(2, 1, 1, 1);
        // STAMPS 30, 150, 210, 270, 330.
        fitIs(x, 0, 1, 120, 1);
        fitIs(x, 3, 4, 60, 1);
        // 3 (0 + 150 + 420) - 3 * 390 by 3 * 5 - 9.
        fitIs(x, 0, 2, 90, 1);
        // 5 (150 + 420 + 810 + 1320) - 10 * 990 by 5 * 30 - 100.
        fitIs(x, 0, 4, 72, 1);
        x.nominal(60);
        x.mend(1);
        fitIs(x, 0, 4, 60, 1);
        fitIs(Check.withEdges(0, 59), 0, 1, 0, 1);
        PeriodGates y = withGaps(row(31, 3, 0, 0, 0, 0));
        fitIs(y, 0, 31, 180, 1);
        fitIs(y, 30, 31, 180, 1);
        y.nominal(1);
        y.mend(1);
        fitIs(y, 0, 31, 18, 1);
    }

    private static void off() {
        of("THE LINE has that slope and goes through the mean PLACE and the mean STAMP.");
        PeriodGates x = withGaps(2, 1, 1, 1);
        // Slope 72 through 2 and 198: 54, 126, 198, 270, 342 against 30, 150, 210, 270, 330.
        due("off(0, 4)", x.off(0, 4), 0);
        due("off(1, 4), all on it", x.off(1, 4), 1);
        due("off(0, 1), both on it", x.off(0, 1), 0);
        of("OFF is the EDGE of these whose STAMP is the farthest from THE LINE at its PLACE, above or below, of like ones"
            + " the least.");
        PeriodGates above = withGaps(1, 3, 1);
        // 30, 90, 270, 330: slope 108 through 1.5 and 180: 18, 126, 234, 342: 12 above, 36 below, 36 above, 12 below.
        due("off(0, 3), one above and one below", above.off(0, 3), 1);
        due("off(0, 2), below", withGaps(1, 3).off(0, 2), 1);
        due("off(0, 2), above", withGaps(3, 1).off(0, 2), 1);
        due("off(0, 4), 24 below and 24 above", withGaps(1, 1, 1, 2).off(0, 4), 3);
        due("off(0, 5), the last", withGaps(1, 1, 1, 1, 2).off(0, 5), 5);
        due("off(2, 5), of these", withGaps(9, 1, 1, 1, 2).off(2, 5), 4);
        due("off(0, 31), all alike", withGaps(row(31, 3, 0, 0, 0, 0)).off(0, 31), 0);
    }

    private static void gain() {
        of("GAIN of m EDGES (3 to 32), PLACES 0 on: PERIOD by FIT, and PERIOD by ends alone (the last STAMP less the first,"
            + " by m less 1), are both sums of STAMPS, each times a WEIGHT; GAIN: the sum of squares of WEIGHTS by ends, by"
            + " that of those by FIT.");
        PeriodGates x = new PeriodGates();
        due("gain(2, 0)", x.gain(2, 0), Check.far(Check.BAD));
        due("gain(33, 0)", x.gain(33, 0), Check.far(Check.BAD));
        Oracle o = new Oracle();
        for (int m = 3; m <= 32; m++) {
            due("gain(" + m + ", 0)", x.gain(m, 0), o.gain(m, 0));
            due("gain(" + m + ", 1)", x.gain(m, 1), o.gain(m, 1));
        }
        // WEIGHTS by ends -1 / 3, 0, 0, 1 / 3, by FIT -0.3, -0.1, 0.1, 0.3: 2 / 9 by 1 / 5.
        due("gain(4, 0)", x.gain(4, 0), 10);
        due("gain(4, 1)", x.gain(4, 1), 9);
    }

    private static void varianceIs(PeriodGates x, int m, long above, long below) {
        due("variance(" + m + ", 0)", x.variance(m, 0), above);
        due("variance(" + m + ", 1)", x.variance(m, 1), below);
    }

    private static void variance() {
        long not = Check.far(Check.NOT);
        of("VARIANCE at a SPAN m (1 to 15): of each three EDGES i, i and m, i and 2 m, STAMP of the last less twice that of"
            + " the middle and that of the first together, squared; all of these together, by 2 m m times how many there"
            + " are.");
        PeriodGates x = withGaps(row(30, 1, 0, 0, 1, 2));
        // The last GAP is 120: one bend of 60 at each SPAN.
        due("variance(0, 0)", x.variance(0, 0), Check.far(Check.BAD));
        due("variance(16, 0)", x.variance(16, 0), Check.far(Check.BAD));
        varianceIs(x, 1, 60, 1);
        varianceIs(x, 15, 4, 1);
        x.gone(31);
        varianceIs(x, 15, 0, 1);
        x.gone(30);
        varianceIs(x, 15, not, not);
        varianceIs(x, 14, 0, 1);
        varianceIs(withGaps(1, 2), 1, 1800, 1);
        varianceIs(withGaps(1, 2), 2, not, not);
        varianceIs(withGaps(2, 1), 1, 1800, 1);
        varianceIs(withGaps(2), 1, not, not);
    }

    private static void rank() {
        of("RANK: SPANS at which there is one, the one with the least VARIANCE first, of like ones the lesser SPAN.");
        PeriodGates x = withGaps(1, 1, 1, 1, 2);
        // At SPAN 1 3600 by 8, at SPAN 2 3600 by 16.
        due("rank(0)", x.rank(0), 2);
        due("rank(1)", x.rank(1), 1);
        due("rank(2)", x.rank(2), Check.BAD);
        PeriodGates alike = withGaps(row(30, 3, 0, 0, 0, 0));
        for (int k = 0; k < 15; k++) {
            due("rank(" + k + "), all alike", alike.rank(k), k + 1);
        }
        due("rank(15)", alike.rank(15), Check.BAD);
        // At SPAN 1 three bends of 0, 60, 0, at SPAN 2 one of 120: 3600 by 6, and 14400 by 8.
        PeriodGates rising = withGaps(1, 1, 2, 2);
        due("rank(0), rising", rising.rank(0), 1);
        due("rank(1), rising", rising.rank(1), 2);
        due("rank(0), two EDGES", withGaps(1).rank(0), Check.BAD);
    }

    private static void widths() {
        of("DENSE WIDTH of a BIN: 60 HITS by all HITS; its WIDTH: FINES of it.");
        PeriodGates x = withCuts(1, 59);
        x.hit(0, 1);
        x.hit(58, 99);
        due("bin(0, 1)", x.bin(0, 1), 1);
        due("bin(1, 1)", x.bin(1, 1), 58);
        due("bin(2, 1)", x.bin(2, 1), 1);
        long[][] widths = {{3, 5}, {297, 5}, {0, 1}};
        for (int b = 0; b < 3; b++) {
            due("dense(" + b + ", 0)", x.dense(b, 0), widths[b][0]);
            due("dense(" + b + ", 1)", x.dense(b, 1), widths[b][1]);
        }
        due("bin(0, 1), no CUTS", new PeriodGates().bin(0, 1), 60);
        of("WORST: the BIN whose DENSE WIDTH is the farthest from its WIDTH, above or below, of like ones the least.");
        // 0.4 below, 1.4 above, 1 below.
        due("worst(), above", x.worst(), 1);
        x.fresh();
        x.sweep(1, 59);
        due("worst(), below", x.worst(), 2);
        x.fresh();
        x.sweep(1, 60);
        due("worst(), all as they should be", x.worst(), 0);
        PeriodGates y = withCuts(20, 40);
        y.hit(20, 1);
        y.hit(40, 2);
        // 20 below, 0, 20 above.
        due("worst(), like ones", y.worst(), 0);
        y.fresh();
        y.hit(0, 1);
        y.hit(20, 2);
        // 0, 20 above, 20 below.
        due("worst(), like ones", y.worst(), 1);
    }

    private static void refusals() {
        of("Refusals, the first that fits, in the order told at each act: BAD -2 (a number not as told, no such thing),"
            + " NULL, NOT -3 (as told), FULL -4, other FINDINGS.");
        PeriodGates x = new PeriodGates();
        x.edges(0, 1, 32);
        due("edge(6000), BAD ahead of FULL", x.edge(6000), -2);
        due("edge(31), NOT ahead of FULL", x.edge(31), -3);
        due("edge(32)", x.edge(32), -4);
        due("put(0, 4, -1, 0), BAD ahead of NULL", x.put(0, 4, -1, 0), -2);
        due("put(0, 3, -1, 0), NULL ahead of the others", x.put(0, 3, -1, 0), -11);
        x.sheet(0, 0, 1);
        due("put(0, 3, -1, 0), CAST ahead of INDEX", x.put(0, 3, -1, 0), -13);
        due("put(0, 0, -1, 0)", x.put(0, 0, -1, 0), -12);
        due("sheet(0, 4, -1), BAD ahead of SIZE", x.sheet(0, 4, -1), -2);
        x.sheet(1, 1, 1);
        due("copy(0, -1, 1, 0, 1), STORE ahead of INDEX", x.copy(0, -1, 1, 0, 1), -14);
        of("They change nothing (FINDINGS but count() 8).");
        due("count(8)", x.count(8), 4);
        long digest = x.digest();
        x.edge(6000);
        x.edge(0);
        x.edge(40);
        due("count(8), these are no FINDINGS", x.count(8), 4);
        due("digest()", x.digest(), digest);
        x.write(1);
        due("count(8), CAST", x.count(8), 3);
        due("digest()", x.digest(), digest);
        due("get(1, 0)", x.get(1, 0), 0);
        of("Where the answer is a long, a refusal -x is the least long and x more.");
        PeriodGates y = new PeriodGates();
        due("stamp(0, 0)", y.stamp(0, 0), Long.MIN_VALUE + 2);
        due("reference(0)", y.reference(0), Long.MIN_VALUE + 3);
        due("get(0, 0)", y.get(0, 0), Long.MIN_VALUE + 11);
        y.sheet(0, 2, 1);
        y.blank(0, 0);
        due("get(0, 1)", y.get(0, 1), Long.MIN_VALUE + 12);
        due("get(0, 0)", y.get(0, 0), Long.MIN_VALUE + 1);
        due("get(-1, 0)", y.get(-1, 0), Long.MIN_VALUE + 2);
    }
}
