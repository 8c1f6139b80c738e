/** Promise 41. */
public final class DigestTest {
    private long h = 17;

    public static void main(String[] args) {
        ofNewObject();
        ofThreeEdges();
        ofFewEdges();
        ofLongChains();
        changesNothing();
        ofSheetsNothing();
        Check.end("DigestTest");
    }

    private DigestTest and(long... answers) {
        for (long answer : answers) {
            h = 31 * h + answer;
        }
        return this;
    }

    private DigestTest times(int n, long... answers) {
        for (int k = 0; k < n; k++) {
            and(answers);
        }
        return this;
    }

    private static void ofNewObject() {
        long not = Check.far(Check.NOT);
        DigestTest due = new DigestTest()
            .and(0, 1, 0, 0, 0, 0, 0, 0).and(0)
            .and(0, 60, 0, not, not).and(Check.NOT)
            .and(not, not)
            .and(0, 0).and(Check.BAD, Check.BAD, Check.BAD, 0, 0)
            .and(5, 4)
            .times(15, not, not);
        Check.due(41, "digest() of a new object", new PeriodGates().digest(), due.h);
    }

    /** STAMPS 15, 75, 495 by line with two BINS; COARSE 0, 1, 8. */
    private static void ofThreeEdges() {
        PeriodGates x = new PeriodGates();
        Check.edgesAt(x, 0, 60, 500);
        x.cut(40);
        x.hit(50, 3);
        x.hit(10, 1);
        x.gate(1, 100);
        x.gate(5, 6);
        x.type(9);
        long not = Check.far(Check.NOT);
        DigestTest due = new DigestTest()
            .and(3, 2, 4, 2, 6, 0, 1, 1).and(0)
            .and(0, 40, 1, 15, 1).and(40, 20, 3, 45, 1).and(0)
            .and(0, 0, 0, 0, 39, 0, 0, 0, 15, 1)
            .and(60, 1, 0, 60, 99, 1, 6, 0, 75, 1)
            .and(500, 8, 0, 480, 519, 2, Check.NONE, 0, 495, 1)
            .and(60, 1)
            .and(1, 2, 1).and(1, 420).and(1, 459).and(1, 381).and(1, 440).and(0)
            .and(1, Check.NONE, Check.NONE).times(8, not).and(1)
            .and(1, 2).and(Check.BAD, Check.BAD, Check.BAD, 1, 2)
            .and(240, 1).and(1)
            .and(5, 4)
            .and(64800, 1).times(14, not, not)
            .and(1);
        Check.due(41, "digest() of three EDGES", x.digest(), due.h);
    }

    /** One EDGE has no FIT; two have one. */
    private static void ofFewEdges() {
        PeriodGates x = new PeriodGates();
        Oracle o = new Oracle();
        for (int time : new int[] {100, 250, 3000}) {
            x.edge(time);
            o.edge(time);
            Check.due(41, "digest() up to the EDGE at " + time, x.digest(), o.digest());
        }
    }

    /** COARSE 0 on: chains of 2, 3 and 4, and of 6, 7 and 8, are all unlike. */
    private static void ofLongChains() {
        PeriodGates x = new PeriodGates();
        Oracle o = new Oracle();
        x.edges(0, 60, 32);
        o.edges(0, 60, 32);
        Check.due(41, "digest() of 32 EDGES", x.digest(), o.digest());
        x.gone(20);
        o.gone(20);
        x.nominal(30);
        o.nominal(30);
        x.mend(1);
        o.mend(1);
        Check.due(41, "digest() of 31 EDGES, mended", x.digest(), o.digest());
    }

    private static void changesNothing() {
        PeriodGates x = new PeriodGates();
        x.edges(3, 77, 20);
        x.sheet(0, 0, -1);
        long first = x.digest();
        Check.due(41, "digest() again", x.digest(), first);
        Check.due(41, "count(8) behind digest()", x.count(8), 5);
    }

    private static void ofSheetsNothing() {
        PeriodGates x = new PeriodGates();
        long first = x.digest();
        x.sheet(0, 3, 5);
        x.write(0);
        x.get(2, 2);
        Check.due(41, "digest() tells nothing of SHEETS", x.digest(), first);
    }
}
