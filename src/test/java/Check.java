/** Compares answers with those that are due, and counts what is wrong. */
final class Check {
    static final int NONE = -1, BAD = -2, NOT = -3, FULL = -4;
    static final int NULL = -11, INDEX = -12, CAST = -13, STORE = -14, SIZE = -15;

    private static int asked = 0;
    private static int wrong = 0;

    private Check() {
    }

    /** A refusal as calls tell it whose answer is a long. */
    static long far(int refusal) {
        return Long.MIN_VALUE - refusal;
    }

    static void due(int promise, String call, long got, long want) {
        asked++;
        if (got != want) {
            wrong++;
            System.out.println("promise " + promise + ": " + call + " answered " + got + ", due is " + want);
        }
    }

    static void holds(String what, boolean so) {
        asked++;
        if (!so) {
            wrong++;
            System.out.println("not so: " + what);
        }
    }

    static void type(PeriodGates x, String text) {
        for (int k = 0; k < text.length(); k++) {
            x.type(text.charAt(k));
        }
    }

    static void edgesAt(PeriodGates x, int... times) {
        for (int time : times) {
            x.edge(time);
        }
    }

    static PeriodGates withEdges(int... times) {
        PeriodGates x = new PeriodGates();
        edgesAt(x, times);
        return x;
    }

    static void end(String test) {
        System.out.println(test + ": " + asked + " looked at, " + wrong + " wrong");
        if (wrong != 0) {
            System.exit(1);
        }
    }
}
