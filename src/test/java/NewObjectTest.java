/** Promise 1. */
public final class NewObjectTest {
    public static void main(String[] args) {
        PeriodGates x = new PeriodGates();
        int[] counts = {0, 1, 0, 0, 0, 0, 0, 0, 0};
        for (int what = 0; what < counts.length; what++) {
            Check.due(1, "count(" + what + ")", x.count(what), counts[what]);
        }
        Check.due(1, "mode()", x.mode(), 0);
        Check.due(1, "bin(0, 0)", x.bin(0, 0), 0);
        Check.due(1, "bin(0, 1)", x.bin(0, 1), 60);
        Check.due(1, "bin(0, 2)", x.bin(0, 2), 0);
        Check.due(1, "nominal(0)", x.nominal(0), 0);
        Check.due(1, "mend(0)", x.mend(0), 0);
        for (int s = 0; s < 4; s++) {
            Check.due(1, "lose(" + s + ")", x.lose(s), Check.NULL);
        }
        PeriodGates other = new PeriodGates();
        other.edge(5);
        other.cut(5);
        Check.due(1, "count(0) of an object beside", x.count(0), 0);
        Check.due(1, "count(1) of an object beside", x.count(1), 1);
        Check.end("NewObjectTest");
    }
}
