import java.util.ArrayList;
import java.util.List;
import java.util.function.ToLongFunction;

/**
 * Every refusal of every call: its answer, and that it changes nothing (a FINDING: nothing but count() 8). Each
 * is made on an object of its own, which is then compared with a like one that never met it.
 */
public final class RefusalsTest {
    private static final int LEAST = Integer.MIN_VALUE, MOST = Integer.MAX_VALUE;

    /** How an object comes to be that a call is refused by. */
    private interface Maker {
        PeriodGates make();
    }

    private final String state;
    private final Maker maker;
    private final List<Long> untouched;
    private final int findingAhead;

    private RefusalsTest(String state, Maker maker) {
        this.state = state;
        this.maker = maker;
        this.untouched = told(maker.make());
        this.findingAhead = maker.make().count(8);
    }

    public static void main(String[] args) {
        RefusalsTest empty = new RefusalsTest("empty", PeriodGates::new);
        RefusalsTest some = new RefusalsTest("some", RefusalsTest::some);
        RefusalsTest full = new RefusalsTest("full", RefusalsTest::full);
        empty.ofNothing();
        for (RefusalsTest each : new RefusalsTest[] {empty, some, full}) {
            each.badNumbersOfEdges();
            each.badNumbersOfViews();
            each.badNumbersOfSheets();
        }
        some.ofSome();
        full.ofFull();
        Check.end("RefusalsTest");
    }

    private static PeriodGates some() {
        PeriodGates x = new PeriodGates();
        x.edges(17, 131, 9);
        x.gone(4);
        x.cut(20);
        x.cut(45);
        x.sweep(7, 33);
        x.gate(10, 500);
        x.gate(2000, 3000);
        Check.type(x, "dens");
        x.nominal(130);
        x.mend(1);
        x.sheet(0, 0, 3);
        x.sheet(1, 1, 3);
        x.sheet(2, 2, 3);
        for (int s = 0; s < 3; s++) {
            x.put(s, s, 1, 5 + s);
        }
        x.blank(2, 2);
        x.sheet(0, 0, -1);
        return x;
    }

    private static PeriodGates full() {
        PeriodGates x = new PeriodGates();
        x.edges(3, 187, 32);
        for (int k = 1; k <= 11; k++) {
            x.cut(5 * k + 1);
        }
        x.sweep(7, 380);
        x.hit(0, 20);
        for (int g = 0; g < 8; g++) {
            x.gate(300 * g, 300 * g + 1000);
        }
        Check.type(x, "dense");
        for (int s = 0; s <= 3; s++) {
            x.sheet(s, s, 40);
            x.put(s, s, 39, 100 + s);
        }
        x.write(3);
        return x;
    }

    /** All that can be told of an object but for count() 8; NOMINAL and MEND tell themselves as they change. */
    private static List<Long> told(PeriodGates x) {
        List<Long> all = new ArrayList<>();
        all.add(x.digest());
        for (int s = 0; s <= 3; s++) {
            for (int i = 0; i <= 40; i++) {
                all.add(x.get(s, i));
            }
            all.add((long) x.found(s, 0));
            all.add((long) x.lose(s));
        }
        all.add((long) x.nominal(0));
        all.add((long) x.mend(0));
        all.add(x.digest());
        return all;
    }

    private void refused(String call, long want, ToLongFunction<PeriodGates> act) {
        PeriodGates x = maker.make();
        long got = act.applyAsLong(x);
        Check.holds(state + ": " + call + " answered " + got + ", due is " + want, got == want);
        int finding = findingOf(want);
        int latest = finding > 0 ? finding : findingAhead;
        Check.holds(state + ": " + call + ": count(8) is " + latest, x.count(8) == latest);
        Check.holds(state + ": " + call + " changes nothing", told(x).equals(untouched));
    }

    /** The number of the FINDING that an answer tells; 0, if it tells none. */
    private static int findingOf(long answer) {
        for (int number = 1; number <= 5; number++) {
            if (answer == -10 - number || answer == Check.far(-10 - number)) {
                return number;
            }
        }
        return 0;
    }

    private void bad(String call, ToLongFunction<PeriodGates> act) {
        refused(call, Check.BAD, act);
    }

    private void badFar(String call, ToLongFunction<PeriodGates> act) {
        refused(call, Check.far(Check.BAD), act);
    }

    private static int[] beside(int least, int most) {
        return new int[] {LEAST, LEAST + 1, -61, least - 1, most + 1, 100000, MOST - 1, MOST};
    }

    private void badNumbersOfEdges() {
        for (int n : beside(0, 5999)) {
            bad("edge(" + n + ")", x -> x.edge(n));
            bad("edges(" + n + ", 1, 1)", x -> x.edges(n, 1, 1));
            bad("gate(" + n + ", 5999)", x -> x.gate(n, 5999));
            bad("gate(0, " + n + ")", x -> x.gate(0, n));
        }
        for (int n : beside(1, 600)) {
            bad("edges(5000, " + n + ", 1)", x -> x.edges(5000, n, 1));
        }
        for (int n : beside(1, 32)) {
            bad("edges(5000, 1, " + n + ")", x -> x.edges(5000, 1, n));
        }
        for (int n : beside(0, 31)) {
            bad("gone(" + n + ")", x -> x.gone(n));
            bad("seen(" + n + ", 0)", x -> x.seen(n, 0));
            badFar("stamp(" + n + ", 0)", x -> x.stamp(n, 0));
            badFar("fit(" + n + ", 1, 0)", x -> x.fit(n, 1, 0));
            badFar("fit(0, " + n + ", 0)", x -> x.fit(0, n, 0));
            bad("off(" + n + ", 1)", x -> x.off(n, 1));
            bad("off(0, " + n + ")", x -> x.off(0, n));
        }
        for (int n : beside(1, 59)) {
            bad("cut(" + n + ")", x -> x.cut(n));
            bad("sweep(" + n + ", 1)", x -> x.sweep(n, 1));
        }
        for (int n : beside(0, 59)) {
            bad("hit(" + n + ", 1)", x -> x.hit(n, 1));
        }
        for (int n : beside(1, 99)) {
            bad("hit(0, " + n + ")", x -> x.hit(0, n));
            bad("chain(" + n + ", 0, 3)", x -> x.chain(n, 0, 3));
        }
        for (int n : beside(1, 400)) {
            bad("sweep(1, " + n + ")", x -> x.sweep(1, n));
        }
    }

    private void badNumbersOfViews() {
        for (int n : beside(0, 11)) {
            bad("bin(" + n + ", 0)", x -> x.bin(n, 0));
            badFar("dense(" + n + ", 0)", x -> x.dense(n, 0));
        }
        for (int n : beside(0, 2)) {
            bad("bin(0, " + n + ")", x -> x.bin(0, n));
            bad("where(0, " + n + ")", x -> x.where(0, n));
        }
        for (int n : beside(0, 1)) {
            badFar("dense(0, " + n + ")", x -> x.dense(0, n));
            badFar("stamp(0, " + n + ")", x -> x.stamp(0, n));
            badFar("reference(" + n + ")", x -> x.reference(n));
            badFar("frequency(0, 3, " + n + ")", x -> x.frequency(0, 3, n));
            badFar("fit(0, 1, " + n + ")", x -> x.fit(0, 1, n));
            badFar("gain(5, " + n + ")", x -> x.gain(5, n));
            badFar("variance(1, " + n + ")", x -> x.variance(1, n));
            bad("mend(" + n + ")", x -> x.mend(n));
        }
        for (int n : beside(0, 7)) {
            bad("seen(0, " + n + ")", x -> x.seen(0, n));
            bad("where(" + n + ", 0)", x -> x.where(n, 0));
            badFar("frequency(" + n + ", 0, 0)", x -> x.frequency(n, 0, 0));
            bad("closing(" + n + ")", x -> x.closing(n));
        }
        for (int n : beside(0, 3)) {
            badFar("frequency(0, " + n + ", 0)", x -> x.frequency(0, n, 0));
        }
        for (int n : beside(0, 4)) {
            bad("chain(1, 0, " + n + ")", x -> x.chain(1, 0, n));
        }
        for (int n : beside(0, 30)) {
            bad("chain(1, " + n + ", 0)", x -> x.chain(1, n, 0));
        }
        for (int n : beside(3, 32)) {
            badFar("gain(" + n + ", 0)", x -> x.gain(n, 0));
        }
        for (int n : beside(1, 15)) {
            badFar("variance(" + n + ", 0)", x -> x.variance(n, 0));
        }
        for (int n : beside(0, 14)) {
            bad("rank(" + n + ")", x -> x.rank(n));
        }
        for (int n : beside(0, 255)) {
            bad("type(" + n + ")", x -> x.type(n));
        }
        for (int n : beside(0, 600)) {
            bad("nominal(" + n + ")", x -> x.nominal(n));
        }
        for (int n : beside(0, 8)) {
            bad("count(" + n + ")", x -> x.count(n));
        }
    }

    private void badNumbersOfSheets() {
        for (int n : beside(0, 3)) {
            bad("sheet(" + n + ", 0, 1)", x -> x.sheet(n, 0, 1));
            bad("sheet(" + n + ", 0, -1)", x -> x.sheet(n, 0, -1));
            bad("sheet(0, " + n + ", 1)", x -> x.sheet(0, n, 1));
            bad("sheet(0, " + n + ", -1)", x -> x.sheet(0, n, -1));
            bad("lose(" + n + ")", x -> x.lose(n));
            bad("put(" + n + ", 0, 0, 1)", x -> x.put(n, 0, 0, 1));
            bad("put(0, " + n + ", 0, 1)", x -> x.put(0, n, 0, 1));
            bad("blank(" + n + ", 0)", x -> x.blank(n, 0));
            badFar("get(" + n + ", 0)", x -> x.get(n, 0));
            bad("copy(" + n + ", 0, 0, 0, 1)", x -> x.copy(n, 0, 0, 0, 1));
            bad("copy(0, 0, " + n + ", 0, 1)", x -> x.copy(0, 0, n, 0, 1));
            bad("write(" + n + ")", x -> x.write(n));
            bad("found(" + n + ", 0)", x -> x.found(n, 0));
        }
        for (int n : beside(0, 2)) {
            bad("found(0, " + n + ")", x -> x.found(0, n));
        }
        for (int n : new int[] {41, 42, 1000, MOST - 1, MOST}) {
            bad("sheet(0, 0, " + n + ")", x -> x.sheet(0, 0, n));
        }
        for (int n : new int[] {-1, -2, LEAST + 1, LEAST}) {
            refused("sheet(0, 0, " + n + ")", Check.SIZE, x -> x.sheet(0, 0, n));
        }
    }

    private void ofNothing() {
        long not = Check.far(Check.NOT);
        bad("gone(0)", x -> x.gone(0));
        bad("seen(0, 0)", x -> x.seen(0, 0));
        badFar("stamp(0, 0)", x -> x.stamp(0, 0));
        badFar("fit(0, 1, 0)", x -> x.fit(0, 1, 0));
        bad("off(0, 1)", x -> x.off(0, 1));
        bad("chain(1, 0, 0)", x -> x.chain(1, 0, 0));
        bad("rank(0)", x -> x.rank(0));
        bad("bin(1, 0)", x -> x.bin(1, 0));
        bad("where(0, 0)", x -> x.where(0, 0));
        badFar("frequency(0, 0, 0)", x -> x.frequency(0, 0, 0));
        bad("closing(0)", x -> x.closing(0));
        refused("dense(0, 0)", not, x -> x.dense(0, 0));
        refused("worst()", Check.NOT, PeriodGates::worst);
        refused("reference(0)", not, x -> x.reference(0));
        refused("back()", Check.NOT, PeriodGates::back);
        refused("variance(1, 0)", not, x -> x.variance(1, 0));
        for (int s = 0; s <= 3; s++) {
            int sheet = s;
            refused("lose", Check.NULL, x -> x.lose(sheet));
            refused("put", Check.NULL, x -> x.put(sheet, sheet, MOST, 1));
            refused("blank", Check.NULL, x -> x.blank(sheet, LEAST));
            refused("get", Check.far(Check.NULL), x -> x.get(sheet, -1));
            refused("copy", Check.NULL, x -> x.copy(sheet, -1, 3 - sheet, -1, -1));
            refused("write", Check.NULL, x -> x.write(sheet));
            refused("found", Check.NULL, x -> x.found(sheet, 2));
        }
    }

    /** 8 EDGES at 17, 148, 279, 410, 672, 803, 934, 1065; 3 BINS, 33 HITS, 2 GATES, 4 bytes, SHEETS 0 to 2 of 3 items. */
    private void ofSome() {
        refused("edge(17)", Check.NOT, x -> x.edge(17));
        refused("edge(1065)", Check.NOT, x -> x.edge(1065));
        refused("edges(17, 1, 5)", 0, x -> x.edges(17, 1, 5));
        bad("gone(8)", x -> x.gone(8));
        bad("seen(8, 6)", x -> x.seen(8, 6));
        badFar("stamp(8, 1)", x -> x.stamp(8, 1));
        bad("bin(3, 0)", x -> x.bin(3, 0));
        badFar("dense(3, 0)", x -> x.dense(3, 0));
        refused("sweep(1, 368), they would be 401", Check.FULL, x -> x.sweep(1, 368));
        bad("gate(5, 5)", x -> x.gate(5, 5));
        bad("gate(6, 5)", x -> x.gate(6, 5));
        bad("where(2, 0)", x -> x.where(2, 0));
        badFar("frequency(2, 0, 0)", x -> x.frequency(2, 0, 0));
        refused("frequency(1, 0, 0)", Check.far(Check.NOT), x -> x.frequency(1, 0, 0));
        bad("closing(2)", x -> x.closing(2));
        badFar("fit(7, 8, 0)", x -> x.fit(7, 8, 0));
        badFar("fit(3, 3, 0)", x -> x.fit(3, 3, 0));
        bad("off(4, 3)", x -> x.off(4, 3));
        refused("variance(4, 0)", Check.far(Check.NOT), x -> x.variance(4, 0));
        bad("rank(3)", x -> x.rank(3));
        refused("lose(3)", Check.NULL, x -> x.lose(3));
        refused("put(2, 3, 1, 1)", Check.CAST, x -> x.put(2, 3, 1, 1));
        refused("put(2, 2, 3, 1)", Check.INDEX, x -> x.put(2, 2, 3, 1));
        refused("blank(1, 1)", Check.CAST, x -> x.blank(1, 1));
        refused("blank(2, 3)", Check.INDEX, x -> x.blank(2, 3));
        refused("get(2, 3)", Check.far(Check.INDEX), x -> x.get(2, 3));
        refused("get(3, 0)", Check.far(Check.NULL), x -> x.get(3, 0));
        refused("copy(0, 0, 3, 0, 1)", Check.NULL, x -> x.copy(0, 0, 3, 0, 1));
        refused("copy(0, 0, 1, 0, 3)", Check.STORE, x -> x.copy(0, 0, 1, 0, 3));
        refused("copy(2, 1, 2, 0, 3)", Check.INDEX, x -> x.copy(2, 1, 2, 0, 3));
        refused("copy(2, 0, 2, 1, 3)", Check.INDEX, x -> x.copy(2, 0, 2, 1, 3));
        refused("write(2)", Check.CAST, x -> x.write(2));
        refused("found(0, 0)", Check.CAST, x -> x.found(0, 0));
        refused("found(1, 2)", Check.CAST, x -> x.found(1, 2));
    }

    private void ofFull() {
        refused("edge(4)", Check.FULL, x -> x.edge(4));
        refused("edge(3)", Check.NOT, x -> x.edge(3));
        refused("edges(4, 600, 32)", 0, x -> x.edges(4, 600, 32));
        refused("cut(1)", Check.FULL, x -> x.cut(1));
        refused("cut(59)", Check.FULL, x -> x.cut(59));
        refused("hit(0, 1)", Check.FULL, x -> x.hit(0, 1));
        refused("hit(59, 99)", Check.FULL, x -> x.hit(59, 99));
        refused("sweep(1, 1)", Check.FULL, x -> x.sweep(1, 1));
        refused("sweep(59, 400)", Check.FULL, x -> x.sweep(59, 400));
        refused("type(0)", Check.FULL, x -> x.type(0));
        refused("type(255)", Check.FULL, x -> x.type(255));
        refused("gate(0, 1)", Check.FULL, x -> x.gate(0, 1));
        bad("gone(32)", x -> x.gone(32));
        bad("where(8, 0)", x -> x.where(8, 0));
        bad("rank(15)", x -> x.rank(15));
        for (int s = 0; s <= 3; s++) {
            int sheet = s;
            refused("put", Check.INDEX, x -> x.put(sheet, sheet, 40, 1));
            refused("put", Check.CAST, x -> x.put(sheet, (sheet + 1) % 4, 40, 1));
            refused("get", Check.far(Check.INDEX), x -> x.get(sheet, 40));
            refused("copy", Check.INDEX, x -> x.copy(sheet, 1, sheet, 0, 40));
            refused("copy", Check.INDEX, x -> x.copy(sheet, 0, sheet, 1, 40));
            refused("copy", Check.INDEX, x -> x.copy(sheet, 0, sheet, 0, 41));
            refused("copy", Check.STORE, x -> x.copy(sheet, 0, 3 - sheet, 0, 40));
            refused("blank", sheet < 2 ? Check.CAST : Check.INDEX, x -> x.blank(sheet, 40));
        }
    }
}
