/** Promises 32 to 40. */
public final class SheetsTest {
    public static void main(String[] args) {
        sheet();
        lose();
        put();
        blank();
        get();
        copy();
        write();
        found();
        count();
        Check.end("SheetsTest");
    }

    private static void sheet() {
        PeriodGates x = new PeriodGates();
        int[][] bad = {{-1, 0, 1}, {4, 0, 1}, {0, -1, 1}, {0, 4, 1}, {0, 0, 41}, {-1, 0, -1}, {0, 4, -1}};
        for (int[] b : bad) {
            Check.due(32, "sheet, BAD", x.sheet(b[0], b[1], b[2]), Check.BAD);
        }
        Check.due(32, "sheet(0, 0, -1)", x.sheet(0, 0, -1), Check.SIZE);
        Check.due(40, "count(8)", x.count(8), 5);
        Check.due(32, "lose(0), SIZE changed nothing", x.lose(0), Check.NULL);
        Check.due(32, "sheet(0, 0, 0)", x.sheet(0, 0, 0), 0);
        Check.due(32, "get(0, 0), no items", x.get(0, 0), Check.far(Check.INDEX));
        for (int form = 0; form <= 3; form++) {
            Check.due(32, "sheet(form, form, 40)", x.sheet(form, form, 40), 40);
            Check.due(32, "get(form, 39)", x.get(form, 39), 0);
            x.put(form, form, 5, 77);
            Check.due(32, "sheet(form, form, 6), new", x.sheet(form, form, 6), 6);
            Check.due(32, "get(form, 5), new", x.get(form, 5), 0);
            Check.due(32, "get(form, 6)", x.get(form, 6), Check.far(Check.INDEX));
        }
        x.blank(3, 0);
        x.sheet(3, 2, 1);
        Check.due(32, "found(3, 2), new", x.found(3, 2), 0);
        x.put(3, 2, 0, 8);
        Check.due(32, "sheet(3, 2, -5)", x.sheet(3, 2, -5), Check.SIZE);
        Check.due(32, "get(3, 0), SIZE changed nothing", x.get(3, 0), 8);
        Check.due(32, "sheet(3, 2, 41)", x.sheet(3, 2, 41), Check.BAD);
        Check.due(32, "get(3, 0), BAD changed nothing", x.get(3, 0), 8);
    }

    private static void lose() {
        PeriodGates x = new PeriodGates();
        Check.due(33, "lose(-1)", x.lose(-1), Check.BAD);
        Check.due(33, "lose(4)", x.lose(4), Check.BAD);
        Check.due(33, "count(8), BAD is no FINDING", x.count(8), 0);
        Check.due(33, "lose(3)", x.lose(3), Check.NULL);
        Check.due(33, "count(8)", x.count(8), 1);
        x.sheet(3, 1, 7);
        x.sheet(2, 1, 0);
        Check.due(33, "lose(3)", x.lose(3), 7);
        Check.due(33, "lose(3) again", x.lose(3), Check.NULL);
        Check.due(33, "lose(2)", x.lose(2), 0);
        Check.due(33, "get(3, 0)", x.get(3, 0), Check.far(Check.NULL));
    }

    private static void put() {
        PeriodGates x = new PeriodGates();
        Check.due(34, "put(-1, 0, 0, 1)", x.put(-1, 0, 0, 1), Check.BAD);
        Check.due(34, "put(4, 0, 0, 1)", x.put(4, 0, 0, 1), Check.BAD);
        Check.due(34, "put(0, -1, 0, 1), BAD ahead of NULL", x.put(0, -1, 0, 1), Check.BAD);
        Check.due(34, "put(0, 4, 0, 1)", x.put(0, 4, 0, 1), Check.BAD);
        Check.due(34, "put(0, 0, 0, 1)", x.put(0, 0, 0, 1), Check.NULL);
        for (int form = 0; form <= 3; form++) {
            x.sheet(form, form, 3);
            for (int as = 0; as <= 3; as++) {
                Check.due(34, "put(form, as, 2, 1)", x.put(form, as, 2, 1), as == form ? 1 : Check.CAST);
                Check.due(34, "put(form, as, 3, 1)", x.put(form, as, 3, 1), as == form ? Check.INDEX : Check.CAST);
            }
            Check.due(34, "put(form, form, -1, 1)", x.put(form, form, -1, 1), Check.INDEX);
        }
        Check.due(34, "count(8)", x.count(8), 2);
        x.put(0, 0, 0, Integer.MIN_VALUE);
        Check.due(34, "get(0, 0)", x.get(0, 0), Integer.MIN_VALUE);
        x.put(1, 1, 0, Integer.MIN_VALUE);
        Check.due(34, "get(1, 0)", x.get(1, 0), -214748379832385536L);
        x.put(1, 1, 1, 3);
        Check.due(34, "get(1, 1)", x.get(1, 1), 300000021L);
        x.put(2, 2, 0, 16777217);
        Check.due(34, "get(2, 0), as near as a float is", x.get(2, 0), 16777216);
        x.put(2, 2, 0, Integer.MAX_VALUE);
        Check.due(34, "get(2, 0), as near as a float is", x.get(2, 0), 2147483648L);
        x.put(2, 2, 1, -3);
        Check.due(34, "get(2, 1)", x.get(2, 1), -3);
        x.put(3, 3, 0, Integer.MAX_VALUE);
        Check.due(34, "get(3, 0)", x.get(3, 0), Integer.MAX_VALUE);
        x.blank(3, 0);
        x.put(3, 3, 0, 5);
        Check.due(34, "get(3, 0), a number again", x.get(3, 0), 5);
        Check.due(34, "found(3, 2), a number again", x.found(3, 2), 0);
    }

    private static void blank() {
        PeriodGates x = new PeriodGates();
        Check.due(35, "blank(-1, 0)", x.blank(-1, 0), Check.BAD);
        Check.due(35, "blank(4, 0)", x.blank(4, 0), Check.BAD);
        Check.due(35, "blank(0, 0)", x.blank(0, 0), Check.NULL);
        for (int form = 0; form <= 3; form++) {
            x.sheet(form, form, 2);
            boolean real = form >= 2;
            Check.due(35, "blank(form, 1)", x.blank(form, 1), real ? 1 : Check.CAST);
            Check.due(35, "blank(form, 2)", x.blank(form, 2), real ? Check.INDEX : Check.CAST);
            Check.due(35, "blank(form, -1)", x.blank(form, -1), real ? Check.INDEX : Check.CAST);
            Check.due(35, "get(form, 1)", x.get(form, 1), real ? Check.far(Check.NONE) : 0);
            Check.due(35, "get(form, 0)", x.get(form, 0), 0);
        }
    }

    private static void get() {
        PeriodGates x = new PeriodGates();
        Check.due(36, "get(-1, 0)", x.get(-1, 0), Check.far(Check.BAD));
        Check.due(36, "get(4, 0)", x.get(4, 0), Check.far(Check.BAD));
        Check.due(36, "get(0, 0)", x.get(0, 0), Check.far(Check.NULL));
        Check.due(36, "count(8)", x.count(8), 1);
        x.sheet(0, 3, 2);
        Check.due(36, "get(0, 2)", x.get(0, 2), Check.far(Check.INDEX));
        Check.due(36, "get(0, -1)", x.get(0, -1), Check.far(Check.INDEX));
        Check.due(36, "count(8)", x.count(8), 2);
        Check.due(36, "get(4, 0), BAD changes nothing", x.get(4, 0), Check.far(Check.BAD));
        Check.due(36, "count(8)", x.count(8), 2);
        // STAMPS 5, 65, 135: VARIANCE at SPAN 1 is 50; 8 times it 400.
        for (int fine = 1; fine <= 5; fine++) {
            x.cut(fine);
        }
        Check.edgesAt(x, 0, 60, 121);
        x.write(0);
        Check.due(36, "get(0, 0)", x.get(0, 0), 400);
        x.cut(6);
        // By 7 BINS it is 1800 / 49; 8 times it 293.87..
        x.write(0);
        Check.due(36, "get(0, 0), cast to a long", x.get(0, 0), 293);
    }

    private static void copy() {
        PeriodGates x = new PeriodGates();
        x.sheet(0, 2, 6);
        x.sheet(1, 2, 4);
        x.sheet(2, 3, 6);
        for (int i = 0; i < 6; i++) {
            x.put(0, 2, i, i + 1);
        }
        x.blank(0, 2);
        int[][] bad = {{-1, 0}, {4, 0}, {0, -1}, {0, 4}, {3, 4}};
        for (int[] b : bad) {
            Check.due(37, "copy, BAD", x.copy(b[0], 0, b[1], 0, 1), Check.BAD);
        }
        Check.due(37, "copy(3, 0, 0, 0, 1)", x.copy(3, 0, 0, 0, 1), Check.NULL);
        Check.due(37, "copy(0, 0, 3, 0, 1)", x.copy(0, 0, 3, 0, 1), Check.NULL);
        Check.due(37, "copy(0, -1, 3, 0, 1), NULL ahead of INDEX", x.copy(0, -1, 3, 0, 1), Check.NULL);
        Check.due(37, "copy(0, 0, 2, 0, 1)", x.copy(0, 0, 2, 0, 1), Check.STORE);
        Check.due(37, "copy(0, -1, 2, 0, 0), STORE ahead of INDEX", x.copy(0, -1, 2, 0, 0), Check.STORE);
        Check.due(40, "count(8)", x.count(8), 4);
        int[][] index = {
            {-1, 0, 1}, {0, -1, 1}, {0, 0, -1}, {6, 0, 1}, {7, 0, 0}, {0, 5, 0}, {0, 4, 1}, {0, 0, 5}, {3, 0, 4},
            {0, 1, 4}, {1, 0, Integer.MAX_VALUE}, {Integer.MAX_VALUE, 0, 1}, {0, Integer.MAX_VALUE, 1},
            {Integer.MIN_VALUE, 0, 0}, {0, 0, Integer.MIN_VALUE}
        };
        for (int[] w : index) {
            Check.due(37, "copy, INDEX", x.copy(0, w[0], 1, w[1], w[2]), Check.INDEX);
        }
        Check.due(37, "copy(0, 6, 1, 4, 0)", x.copy(0, 6, 1, 4, 0), 1);
        Check.due(37, "copy(0, 1, 1, 0, 4)", x.copy(0, 1, 1, 0, 4), 1);
        rowIs(x, 1, 2, -1, 4, 5);
        Check.due(37, "copy(0, 0, 0, 1, 5), upwards", x.copy(0, 0, 0, 1, 5), 1);
        rowIs(x, 0, 1, 1, 2, -1, 4, 5);
        Check.due(37, "copy(0, 2, 0, 0, 4), downwards", x.copy(0, 2, 0, 0, 4), 1);
        rowIs(x, 0, 2, -1, 4, 5, 4, 5);
        Check.due(37, "copy(1, 0, 0, 1, 1), a number for none", x.copy(1, 0, 0, 1, 1), 1);
        rowIs(x, 0, 2, 2, 4, 5, 4, 5);
        x.sheet(0, 0, 2);
        x.sheet(1, 1, 2);
        Check.due(37, "copy(0, 0, 1, 0, 1), ints to longs", x.copy(0, 0, 1, 0, 1), Check.STORE);
        x.sheet(3, 1, 2);
        x.put(1, 1, 0, 1);
        Check.due(37, "copy(1, 0, 3, 1, 1), longs", x.copy(1, 0, 3, 1, 1), 1);
        Check.due(37, "get(3, 1)", x.get(3, 1), 100000007);
    }

    /** What get() tells; -1 stands for no number. */
    private static void rowIs(PeriodGates x, int s, int... items) {
        for (int i = 0; i < items.length; i++) {
            long due = items[i] == -1 ? Check.far(Check.NONE) : items[i];
            Check.due(37, "get(" + s + ", " + i + ")", x.get(s, i), due);
        }
    }

    private static void write() {
        PeriodGates x = new PeriodGates();
        Check.due(38, "write(-1)", x.write(-1), Check.BAD);
        Check.due(38, "write(4)", x.write(4), Check.BAD);
        Check.due(38, "write(0)", x.write(0), Check.NULL);
        for (int form = 0; form <= 2; form++) {
            x.sheet(0, form, 3);
            Check.due(38, "write(0) of FORM " + form, x.write(0), Check.CAST);
        }
        x.sheet(0, 3, 0);
        Check.due(38, "write(0), no items", x.write(0), 0);
        x.sheet(0, 3, 18);
        for (int i = 0; i < 18; i++) {
            x.put(0, 3, i, 7);
        }
        Check.due(38, "write(0), no EDGES", x.write(0), 0);
        Check.due(38, "found(0, 2), no EDGES", x.found(0, 2), 15);
        Check.due(38, "get(0, 14)", x.get(0, 14), Check.far(Check.NONE));
        Check.due(38, "get(0, 15), behind SPAN 15", x.get(0, 15), 7);
        Check.edgesAt(x, 0, 60, 180, 240, 420);
        Check.due(38, "write(0), 5 EDGES", x.write(0), 2);
        Check.due(38, "get(0, 0)", x.get(0, 0), 8 * 3600);
        Check.due(38, "get(0, 1)", x.get(0, 1), 8 * 450);
        Check.due(38, "get(0, 2)", x.get(0, 2), Check.far(Check.NONE));
        Check.due(38, "get(0, 17)", x.get(0, 17), 7);
        x.sheet(1, 3, 1);
        Check.due(38, "write(1), one item", x.write(1), 1);
        x.clear();
        x.edges(0, 60, 31);
        Check.due(38, "write(0), 31 EDGES", x.write(0), 15);
        Check.due(38, "found(0, 2), 31 EDGES", x.found(0, 2), 0);
        x.lose(0);
        Check.due(38, "write(0), LOST", x.write(0), Check.NULL);
    }

    private static void found() {
        PeriodGates x = new PeriodGates();
        int[][] bad = {{-1, 0}, {4, 0}, {0, -1}, {0, 3}};
        for (int[] b : bad) {
            Check.due(39, "found, BAD", x.found(b[0], b[1]), Check.BAD);
        }
        Check.due(39, "found(0, 0)", x.found(0, 0), Check.NULL);
        x.sheet(0, 0, 2);
        x.sheet(1, 1, 2);
        Check.due(39, "found(0, 0), ints", x.found(0, 0), Check.CAST);
        Check.due(39, "found(1, 2), longs", x.found(1, 2), Check.CAST);
        for (int form = 2; form <= 3; form++) {
            x.sheet(form, form, 0);
            Check.due(39, "found(form, 0), no items", x.found(form, 0), Check.NONE);
            Check.due(39, "found(form, 2), no items", x.found(form, 2), 0);
            x.sheet(form, form, 40);
            x.blank(form, 39);
            Check.due(39, "found(form, 2), 40 items", x.found(form, 2), 1);
            Check.due(39, "found(form, 1), 40 items", x.found(form, 1), 0);
            Check.due(37, "copy(form, 39, form, 0, 1), 40 items", x.copy(form, 39, form, 0, 1), 1);
            Check.due(37, "copy(form, 0, form, 0, 40), 40 items", x.copy(form, 0, form, 0, 40), 1);
            Check.due(39, "found(form, 2), 40 items", x.found(form, 2), 2);
            x.sheet(form, form, 6);
            int[] items = {4, -3, 9, -3, 9, 4};
            for (int i = 0; i < items.length; i++) {
                x.put(form, form, i, items[i]);
            }
            Check.due(39, "found(form, 0)", x.found(form, 0), 1);
            Check.due(39, "found(form, 1)", x.found(form, 1), 2);
            x.put(form, form, 0, 10);
            Check.due(39, "found(form, 1), the first", x.found(form, 1), 0);
            x.put(form, form, 0, -10);
            Check.due(39, "found(form, 0), the first", x.found(form, 0), 0);
            x.blank(form, 0);
            Check.due(39, "found(form, 2), the first", x.found(form, 2), 1);
            x.blank(form, 1);
            x.blank(form, 2);
            Check.due(39, "found(form, 0), some blank", x.found(form, 0), 3);
            Check.due(39, "found(form, 1), some blank", x.found(form, 1), 4);
            Check.due(39, "found(form, 2), some blank", x.found(form, 2), 3);
            for (int i = 3; i < 6; i++) {
                x.blank(form, i);
            }
            Check.due(39, "found(form, 0), all blank", x.found(form, 0), Check.NONE);
            Check.due(39, "found(form, 1), all blank", x.found(form, 1), Check.NONE);
            Check.due(39, "found(form, 2), all blank", x.found(form, 2), 6);
        }
    }

    private static void count() {
        PeriodGates x = new PeriodGates();
        Check.due(40, "count(-1)", x.count(-1), Check.BAD);
        Check.due(40, "count(9)", x.count(9), Check.BAD);
        x.cut(59);
        x.cut(58);
        x.sweep(1, 12);
        x.gate(1, 2);
        x.gate(2, 3);
        Check.type(x, "know");
        Check.edgesAt(x, 0, 60, 120, 240, 5940);
        x.lose(1);
        x.sheet(1, 0, -9);
        int[] due = {5, 3, 12, 2, 10, 1, 2, 4, 5};
        for (int what = 0; what < due.length; what++) {
            Check.due(40, "count(" + what + ")", x.count(what), due[what]);
        }
        x.get(0, 0);
        Check.due(40, "count(8), the latest", x.count(8), 1);
        x.edge(-1);
        x.back();
        x.sheet(0, 0, 1);
        Check.due(40, "count(8), it stays", x.count(8), 1);
        Check.due(40, "count(3)", x.count(3), 1);
        int[] spans = {0, 0, 0, 1, 1, 2, 2, 3};
        x.clear();
        for (int n = 0; n < spans.length; n++) {
            Check.due(40, "count(6) of " + n + " EDGES", x.count(6), spans[n]);
            x.edge(60 * n);
        }
        x.clear();
        x.edges(0, 60, 32);
        Check.due(40, "count(6) of 32 EDGES", x.count(6), 15);
    }
}
