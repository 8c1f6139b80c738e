/** Promises 32 to 41, each sentence at its boundaries. */
public final class BoundarySheetsTest {
    private static final int LEAST = Integer.MIN_VALUE, MOST = Integer.MAX_VALUE;
    private static final long NO_NUMBER = Check.far(Check.NONE);

    public static void main(String[] args) {
        sheet();
        lose();
        put();
        putRefused();
        blank();
        get();
        copy();
        copyRefused();
        write();
        writeRefused();
        found();
        foundRefused();
        count();
        digest();
        Sentences.end("BoundarySheetsTest", 32, 41);
    }

    private static void due(String call, long got, long want) {
        Sentences.due(call, got, want);
    }

    /** SHEET s of FORM s with n items, of each s. */
    private static PeriodGates withSheets(int n) {
        PeriodGates x = new PeriodGates();
        for (int s = 0; s <= 3; s++) {
            x.sheet(s, s, n);
        }
        return x;
    }

    private static void itemsAre(PeriodGates x, int s, long... items) {
        for (int i = 0; i < items.length; i++) {
            due("get(" + s + ", " + i + ")", x.get(s, i), items[i]);
        }
        due("get(" + s + ", " + items.length + ")", x.get(s, items.length), Check.far(Check.INDEX));
    }

    private static void sheet() {
        Sentences.of(32, "A SHEET is a new row of a FORM with n items: n.");
        PeriodGates x = new PeriodGates();
        for (int s = 0; s <= 3; s++) {
            for (int form = 0; form <= 3; form++) {
                due("sheet(s, form, 0)", x.sheet(s, form, 0), 0);
                itemsAre(x, s);
                due("sheet(s, form, 40)", x.sheet(s, form, 40), 40);
                due("put(s, form, 39, 8)", x.put(s, form, 39, 8), 1);
                due("put(s, form, 0, 8)", x.put(s, form, 0, 8), 1);
                due("sheet(s, form, 40), anew", x.sheet(s, form, 40), 40);
                due("get(s, 39), anew", x.get(s, 39), 0);
                due("get(s, 0), anew", x.get(s, 0), 0);
                due("sheet(s, form, 1)", x.sheet(s, form, 1), 1);
                itemsAre(x, s, 0);
            }
        }
        x.sheet(3, 3, 2);
        x.blank(3, 1);
        x.sheet(3, 3, 2);
        itemsAre(x, 3, 0, 0);
        x.blank(3, 1);
        x.sheet(3, 0, 2);
        itemsAre(x, 3, 0, 0);
        Sentences.of(32, "BAD: SHEET, FORM, above 40");
        int[][] bad = {
            {-1, 0, 1}, {4, 0, 1}, {LEAST, 0, 1}, {MOST, 0, 1}, {0, -1, 1}, {0, 4, 1}, {0, LEAST, 1}, {0, MOST, 1}, {0, 0, 41},
            {0, 0, MOST}, {4, 0, -1}, {0, 4, -1}
        };
        x.sheet(0, 1, 3);
        x.put(0, 1, 2, 1);
        int finding = x.count(8);
        for (int[] b : bad) {
            due("sheet(" + b[0] + ", " + b[1] + ", " + b[2] + ")", x.sheet(b[0], b[1], b[2]), Check.BAD);
        }
        due("count(8)", x.count(8), finding);
        itemsAre(x, 0, 0, 0, 100000007);
        Sentences.of(32, "SIZE");
        due("sheet(0, 0, -1)", x.sheet(0, 0, -1), Check.SIZE);
        due("count(8)", x.count(8), 5);
        due("sheet(0, 0, LEAST)", x.sheet(0, 0, LEAST), Check.SIZE);
        itemsAre(x, 0, 0, 0, 100000007);
        PeriodGates y = new PeriodGates();
        due("sheet(2, 0, -1), it is LOST", y.sheet(2, 0, -1), Check.SIZE);
        due("lose(2), still", y.lose(2), Check.NULL);
    }

    private static void lose() {
        Sentences.of(33, "It is LOST: how many items it had.");
        PeriodGates x = withSheets(40);
        for (int s = 0; s <= 3; s++) {
            due("lose(" + s + "), 40 items", x.lose(s), 40);
            due("get(" + s + ", 0)", x.get(s, 0), Check.far(Check.NULL));
        }
        x.sheet(3, 0, 0);
        due("lose(3), no items", x.lose(3), 0);
        x.sheet(3, 1, 1);
        itemsAre(x, 3, 0);
        Sentences.of(33, "BAD");
        PeriodGates y = new PeriodGates();
        for (int s : new int[] {-1, 4, LEAST, MOST}) {
            due("lose(" + s + ")", y.lose(s), Check.BAD);
        }
        due("count(8)", y.count(8), 0);
        Sentences.of(33, "NULL");
        due("lose(0), at first", y.lose(0), Check.NULL);
        due("count(8)", y.count(8), 1);
        y.sheet(3, 3, 3);
        y.lose(3);
        due("lose(3), again", y.lose(3), Check.NULL);
    }

    private static void put() {
        Sentences.of(34, "Item i, treated as of a FORM, becomes v, of longs v times 100000007, of floats and doubles v by 8: 1.");
        int[] values = {0, 1, -1, 7, LEAST, MOST, 16777217, -16777219};
        long[] asFloats = {0, 1, -1, 7, -2147483648L, 2147483648L, 16777216, -16777220};
        PeriodGates x = withSheets(40);
        for (int k = 0; k < values.length; k++) {
            int v = values[k];
            for (int s = 0; s <= 3; s++) {
                for (int i : new int[] {0, 39}) {
                    due("put(" + s + ", " + s + ", " + i + ", " + v + ")", x.put(s, s, i, v), 1);
                    long want = s == 1 ? v * 100000007L : s == 2 ? asFloats[k] : v;
                    due("get(" + s + ", " + i + "), put " + v, x.get(s, i), want);
                }
                due("get(" + s + ", 1), beside it", x.get(s, 1), 0);
                due("get(" + s + ", 38), beside it", x.get(s, 38), 0);
            }
        }
        x.blank(2, 3);
        x.blank(3, 3);
        due("put(2, 2, 3, 0), for no number", x.put(2, 2, 3, 0), 1);
        due("put(3, 3, 3, 0), for no number", x.put(3, 3, 3, 0), 1);
        due("get(2, 3)", x.get(2, 3), 0);
        due("get(3, 3)", x.get(3, 3), 0);
    }

    private static void putRefused() {
        Sentences.of(34, "BAD");
        PeriodGates x = new PeriodGates();
        int[][] bad = {{-1, 0}, {4, 0}, {LEAST, 0}, {MOST, 0}, {0, -1}, {0, 4}, {0, LEAST}, {0, MOST}};
        for (int[] b : bad) {
            due("put(" + b[0] + ", " + b[1] + ", 0, 1), LOST", x.put(b[0], b[1], 0, 1), Check.BAD);
        }
        due("count(8)", x.count(8), 0);
        Sentences.of(34, "NULL");
        due("put(0, 0, 0, 1)", x.put(0, 0, 0, 1), Check.NULL);
        due("put(3, 3, -1, 1), NULL ahead of INDEX", x.put(3, 3, -1, 1), Check.NULL);
        due("count(8)", x.count(8), 1);
        Sentences.of(34, "CAST");
        PeriodGates y = withSheets(2);
        for (int s = 0; s <= 3; s++) {
            for (int form = 0; form <= 3; form++) {
                if (form != s) {
                    due("put(" + s + ", " + form + ", 1, 5)", y.put(s, form, 1, 5), Check.CAST);
                    due("put(" + s + ", " + form + ", 2, 5), CAST ahead of INDEX", y.put(s, form, 2, 5), Check.CAST);
                }
            }
            itemsAre(y, s, 0, 0);
        }
        y.put(0, 1, 0, 5);
        due("count(8)", y.count(8), 3);
        Sentences.of(34, "INDEX");
        for (int s = 0; s <= 3; s++) {
            for (int i : new int[] {-1, 2, 39, 40, LEAST, MOST}) {
                due("put(" + s + ", " + s + ", " + i + ", 5)", y.put(s, s, i, 5), Check.INDEX);
            }
            itemsAre(y, s, 0, 0);
            y.sheet(s, s, 0);
            due("put(" + s + ", " + s + ", 0, 5), no items", y.put(s, s, 0, 5), Check.INDEX);
        }
        due("count(8)", y.count(8), 2);
    }

    private static void blank() {
        Sentences.of(35, "Item i of floats or doubles becomes no number (NaN): 1.");
        PeriodGates x = withSheets(40);
        for (int s = 2; s <= 3; s++) {
            due("blank(" + s + ", 0)", x.blank(s, 0), 1);
            due("blank(" + s + ", 39)", x.blank(s, 39), 1);
            due("blank(" + s + ", 39), again", x.blank(s, 39), 1);
            due("get(" + s + ", 0)", x.get(s, 0), NO_NUMBER);
            due("get(" + s + ", 39)", x.get(s, 39), NO_NUMBER);
            due("get(" + s + ", 1)", x.get(s, 1), 0);
            due("found(" + s + ", 2)", x.found(s, 2), 2);
        }
        Sentences.of(35, "BAD");
        for (int s : new int[] {-1, 4, LEAST, MOST}) {
            due("blank(" + s + ", 0)", x.blank(s, 0), Check.BAD);
        }
        due("count(8)", x.count(8), 0);
        Sentences.of(35, "NULL");
        due("blank(3, 0)", new PeriodGates().blank(3, 0), Check.NULL);
        due("blank(0, -1), NULL ahead of INDEX", new PeriodGates().blank(0, -1), Check.NULL);
        Sentences.of(35, "CAST: ints or longs");
        for (int s = 0; s <= 1; s++) {
            due("blank(" + s + ", 0)", x.blank(s, 0), Check.CAST);
            due("blank(" + s + ", 40), CAST ahead of INDEX", x.blank(s, 40), Check.CAST);
            due("get(" + s + ", 0)", x.get(s, 0), 0);
        }
        due("count(8)", x.count(8), 3);
        Sentences.of(35, "INDEX");
        for (int s = 2; s <= 3; s++) {
            for (int i : new int[] {-1, 40, LEAST, MOST}) {
                due("blank(" + s + ", " + i + ")", x.blank(s, i), Check.INDEX);
            }
            x.sheet(s, s, 0);
            due("blank(" + s + ", 0), no items", x.blank(s, 0), Check.INDEX);
        }
        due("count(8)", x.count(8), 2);
    }

    private static void get() {
        Sentences.of(36, "Item i of it: an int, a long itself;");
        PeriodGates x = withSheets(40);
        x.put(0, 0, 39, LEAST);
        x.put(0, 0, 0, MOST);
        x.put(1, 1, 39, LEAST);
        x.put(1, 1, 0, MOST);
        due("get(0, 39)", x.get(0, 39), LEAST);
        due("get(0, 0)", x.get(0, 0), MOST);
        due("get(1, 39)", x.get(1, 39), -214748379832385536L);
        due("get(1, 0)", x.get(1, 0), 214748379732385529L);
        Sentences.of(36, "of a float, a double 8 times it as a double, cast to a long as Java does;");
        x.put(2, 2, 0, MOST);
        x.put(3, 3, 0, MOST);
        x.put(2, 2, 39, -1);
        x.put(3, 3, 39, LEAST);
        due("get(2, 0)", x.get(2, 0), 2147483648L);
        due("get(3, 0)", x.get(3, 0), MOST);
        due("get(2, 39)", x.get(2, 39), -1);
        due("get(3, 39)", x.get(3, 39), LEAST);
        // STAMPS 30 / 7, 60 + 30 / 7, 120 + 90 / 7: 1800 by 49, 8 times it 293.87 ..
        for (int fine = 1; fine <= 6; fine++) {
            x.cut(fine);
        }
        Check.edgesAt(x, 0, 60, 121);
        x.write(3);
        due("get(3, 0), cut", x.get(3, 0), 293);
        Sentences.of(36, "NONE (the least long and 1 more): it is no number.");
        due("get(3, 1)", x.get(3, 1), Long.MIN_VALUE + 1);
        x.blank(2, 39);
        due("get(2, 39)", x.get(2, 39), Long.MIN_VALUE + 1);
        due("count(8), it is no FINDING", x.count(8), 0);
        Sentences.of(36, "BAD");
        for (int s : new int[] {-1, 4, LEAST, MOST}) {
            due("get(" + s + ", 0)", x.get(s, 0), Check.far(Check.BAD));
        }
        due("count(8)", x.count(8), 0);
        Sentences.of(36, "NULL");
        due("get(0, 0)", new PeriodGates().get(0, 0), Check.far(Check.NULL));
        due("get(3, -1), NULL ahead of INDEX", new PeriodGates().get(3, -1), Check.far(Check.NULL));
        Sentences.of(36, "INDEX");
        for (int s = 0; s <= 3; s++) {
            for (int i : new int[] {-1, 40, LEAST, MOST}) {
                due("get(" + s + ", " + i + ")", x.get(s, i), Check.far(Check.INDEX));
            }
            x.sheet(s, s, 0);
            due("get(" + s + ", 0), no items", x.get(s, 0), Check.far(Check.INDEX));
        }
        due("count(8)", x.count(8), 2);
    }

    private static PeriodGates withRow(int form, int... items) {
        PeriodGates x = new PeriodGates();
        x.sheet(0, form, items.length);
        for (int i = 0; i < items.length; i++) {
            x.put(0, form, i, items[i]);
        }
        return x;
    }

    private static void copy() {
        Sentences.of(37, "n items of SHEET s, from i on, come to SHEET t (perhaps s, as they were), from j on: 1.");
        for (int form = 0; form <= 3; form++) {
            long unit = form == 1 ? 100000007L : 1;
            PeriodGates x = withRow(form, 1, 2, 3, 4, 5);
            due("copy(0, 0, 0, 1, 4), upwards", x.copy(0, 0, 0, 1, 4), 1);
            itemsAre(x, 0, unit, unit, 2 * unit, 3 * unit, 4 * unit);
            due("copy(0, 2, 0, 0, 3), downwards", x.copy(0, 2, 0, 0, 3), 1);
            itemsAre(x, 0, 2 * unit, 3 * unit, 4 * unit, 3 * unit, 4 * unit);
            due("copy(0, 0, 0, 0, 5), all to itself", x.copy(0, 0, 0, 0, 5), 1);
            itemsAre(x, 0, 2 * unit, 3 * unit, 4 * unit, 3 * unit, 4 * unit);
            due("copy(0, 0, 0, 4, 1), the first to the last", x.copy(0, 0, 0, 4, 1), 1);
            itemsAre(x, 0, 2 * unit, 3 * unit, 4 * unit, 3 * unit, 2 * unit);
            x.sheet(3, form, 2);
            due("copy(0, 2, 3, 0, 2), to another", x.copy(0, 2, 3, 0, 2), 1);
            itemsAre(x, 3, 4 * unit, 3 * unit);
            due("copy(0, 0, 3, 0, 0), none", x.copy(0, 0, 3, 0, 0), 1);
            due("copy(0, 5, 3, 2, 0), none behind the last", x.copy(0, 5, 3, 2, 0), 1);
            itemsAre(x, 3, 4 * unit, 3 * unit);
            x.sheet(1, form, 0);
            due("copy(1, 0, 1, 0, 0), no items", x.copy(1, 0, 1, 0, 0), 1);
        }
        for (int form = 2; form <= 3; form++) {
            PeriodGates x = withRow(form, 1, 2, 3);
            x.blank(0, 0);
            x.copy(0, 0, 0, 1, 2);
            itemsAre(x, 0, NO_NUMBER, NO_NUMBER, 2);
            x.sheet(1, form, 1);
            x.copy(0, 1, 1, 0, 1);
            itemsAre(x, 1, NO_NUMBER);
            x.copy(0, 2, 1, 0, 1);
            itemsAre(x, 1, 2);
        }
        PeriodGates full = new PeriodGates();
        full.sheet(0, 0, 40);
        full.sheet(1, 0, 40);
        full.put(0, 0, 39, 9);
        due("copy(0, 0, 1, 0, 40)", full.copy(0, 0, 1, 0, 40), 1);
        due("get(1, 39)", full.get(1, 39), 9);
        due("copy(0, 39, 1, 0, 1)", full.copy(0, 39, 1, 0, 1), 1);
        due("get(1, 0)", full.get(1, 0), 9);
    }

    private static void copyRefused() {
        Sentences.of(37, "BAD: the SHEETS");
        PeriodGates x = new PeriodGates();
        int[][] bad = {{-1, 0}, {4, 0}, {LEAST, 0}, {MOST, 0}, {0, -1}, {0, 4}, {0, LEAST}, {0, MOST}};
        for (int[] b : bad) {
            due("copy(" + b[0] + ", 0, " + b[1] + ", 0, 1), LOST", x.copy(b[0], 0, b[1], 0, 1), Check.BAD);
        }
        due("count(8)", x.count(8), 0);
        Sentences.of(37, "NULL: s, t");
        x.sheet(0, 0, 2);
        due("copy(1, 0, 0, 0, 1), s", x.copy(1, 0, 0, 0, 1), Check.NULL);
        due("copy(0, 0, 1, 0, 1), t", x.copy(0, 0, 1, 0, 1), Check.NULL);
        due("copy(1, 0, 1, 0, 0), both", x.copy(1, 0, 1, 0, 0), Check.NULL);
        due("copy(1, 0, 0, 0, -1), NULL ahead of INDEX", x.copy(1, 0, 0, 0, -1), Check.NULL);
        Sentences.of(37, "STORE");
        PeriodGates y = withSheets(2);
        for (int s = 0; s <= 3; s++) {
            for (int t = 0; t <= 3; t++) {
                if (s != t) {
                    due("copy(" + s + ", 0, " + t + ", 0, 0)", y.copy(s, 0, t, 0, 0), Check.STORE);
                    due("copy(" + s + ", 0, " + t + ", 0, 3), STORE ahead of INDEX", y.copy(s, 0, t, 0, 3), Check.STORE);
                }
            }
        }
        due("count(8)", y.count(8), 4);
        Sentences.of(37, "INDEX: i, j or n below 0, not so many there (of n 0, too: i or j above the size).");
        PeriodGates z = withRow(1, 1, 2, 3, 4, 5);
        z.sheet(2, 1, 3);
        int[][] index = {
            // i, j, n
            {-1, 0, 1}, {LEAST, 0, 1}, {-1, 0, 0}, {0, -1, 1}, {0, LEAST, 1}, {0, -1, 0}, {0, 0, -1}, {5, 3, -1}, {0, 0, LEAST},
            {5, 0, 1}, {3, 0, 3}, {0, 3, 1}, {0, 1, 3}, {0, 0, 4}, {0, 0, MOST}, {1, 1, MOST}, {MOST, 0, 1}, {0, MOST, 1},
            {MOST, MOST, MOST}, {6, 0, 0}, {0, 4, 0}, {MOST, 0, 0}, {0, MOST, 0}, {1, 0, -1}, {0, 1, -1}
        };
        for (int[] w : index) {
            due("copy(0, " + w[0] + ", 2, " + w[1] + ", " + w[2] + ")", z.copy(0, w[0], 2, w[1], w[2]), Check.INDEX);
        }
        due("count(8)", z.count(8), 2);
        itemsAre(z, 2, 0, 0, 0);
        due("copy(0, 2, 2, 0, 3), just so many", z.copy(0, 2, 2, 0, 3), 1);
        itemsAre(z, 2, 300000021, 400000028, 500000035);
        z.sheet(2, 1, 0);
        due("copy(0, 0, 2, 0, 1), no items", z.copy(0, 0, 2, 0, 1), Check.INDEX);
        due("copy(2, 1, 0, 0, 0), no items", z.copy(2, 1, 0, 0, 0), Check.INDEX);
        due("copy(2, 0, 0, 5, 0), no items", z.copy(2, 0, 0, 5, 0), 1);
    }

    private static PeriodGates withDoubles(int edges, int items) {
        PeriodGates x = new PeriodGates();
        x.edges(0, 60, edges);
        x.sheet(0, 3, items);
        for (int i = 0; i < items; i++) {
            x.put(0, 3, i, 7);
        }
        return x;
    }

    private static void write() {
        Sentences.of(38, "VARIANCE at SPAN 1 comes to item 0 of a SHEET of doubles, at 2 to item 1, and so on, up to SPAN 15,"
            + " as far as there are items:");
        PeriodGates x = withDoubles(32, 40);
        due("write(0), 40 items", x.write(0), 15);
        for (int i = 0; i < 40; i++) {
            due("get(0, " + i + ")", x.get(0, i), i < 15 ? 0 : 7);
        }
        PeriodGates few = withDoubles(32, 14);
        due("write(0), 14 items", few.write(0), 14);
        due("get(0, 13)", few.get(0, 13), 0);
        PeriodGates just = withDoubles(32, 15);
        due("write(0), 15 items", just.write(0), 15);
        due("get(0, 14)", just.get(0, 14), 0);
        due("write(0), 16 items", withDoubles(32, 16).write(0), 15);
        due("write(0), 1 item", withDoubles(32, 1).write(0), 1);
        due("write(0), no items", withDoubles(32, 0).write(0), 0);
        Sentences.of(38, "what is above by what is below, both as doubles;");
        PeriodGates y = withDoubles(0, 2);
        Check.edgesAt(y, 0, 60, 180, 240, 420);
        due("write(0)", y.write(0), 2);
        due("get(0, 0)", y.get(0, 0), 8 * 3600);
        due("get(0, 1)", y.get(0, 1), 8 * 450);
        Sentences.of(38, "where there is none, no number: how many are numbers.");
        for (int edges : new int[] {1, 2, 3, 4, 5, 30, 31}) {
            PeriodGates z = withDoubles(edges, 18);
            int numbers = (edges - 1) / 2;
            due("write(0), " + edges + " EDGES", z.write(0), numbers);
            for (int i = 0; i < 18; i++) {
                due("get(0, " + i + "), " + edges + " EDGES", z.get(0, i), i >= 15 ? 7 : i < numbers ? 0 : NO_NUMBER);
            }
            z.edges(5000, 1, 32);
            due("write(0), numbers again", z.write(0), 15);
            due("found(0, 2), numbers again", z.found(0, 2), 0);
        }
        PeriodGates none = withDoubles(1, 18);
        none.clear();
        due("write(0), no EDGES", none.write(0), 0);
        due("found(0, 2), no EDGES", none.found(0, 2), 15);
    }

    private static void writeRefused() {
        Sentences.of(38, "BAD");
        PeriodGates x = withSheets(3);
        for (int s : new int[] {-1, 4, LEAST, MOST}) {
            due("write(" + s + ")", x.write(s), Check.BAD);
        }
        due("count(8)", x.count(8), 0);
        Sentences.of(38, "NULL");
        due("write(0)", new PeriodGates().write(0), Check.NULL);
        Sentences.of(38, "CAST");
        for (int s = 0; s <= 2; s++) {
            due("write(" + s + ")", x.write(s), Check.CAST);
            itemsAre(x, s, 0, 0, 0);
            x.sheet(s, s, 0);
            due("write(" + s + "), no items", x.write(s), Check.CAST);
        }
        due("count(8)", x.count(8), 3);
    }

    private static void foundAre(PeriodGates x, int s, int least, int greatest, int none) {
        due("found(" + s + ", 0)", x.found(s, 0), least);
        due("found(" + s + ", 1)", x.found(s, 1), greatest);
        due("found(" + s + ", 2)", x.found(s, 2), none);
    }

    private static void found() {
        Sentences.of(39, "Of a SHEET of floats or doubles which item is the least (what = 0), the greatest (1), of like ones the"
            + " first, those that are no numbers left out (NONE: there are no others);");
        for (int form = 2; form <= 3; form++) {
            foundAre(withRow(form, 5), 0, 0, 0, 0);
            foundAre(withRow(form, 0, 0, 0), 0, 0, 0, 0);
            foundAre(withRow(form, 3, 1, 2), 0, 1, 0, 0);
            foundAre(withRow(form, 3, 1, 4, 1, 4), 0, 1, 2, 0);
            foundAre(withRow(form, LEAST, 0, MOST), 0, 0, 2, 0);
            foundAre(withRow(form, MOST, 0, LEAST), 0, 2, 0, 0);
            foundAre(withRow(form, -1, -2), 0, 1, 0, 0);
            foundAre(withRow(form), 0, Check.NONE, Check.NONE, 0);
            PeriodGates x = withRow(form, -9, 4, 9, 3, 4, 3);
            x.blank(0, 0);
            x.blank(0, 2);
            foundAre(x, 0, 3, 1, 2);
            x.blank(0, 5);
            foundAre(x, 0, 3, 1, 3);
            PeriodGates last = withRow(form, new int[40]);
            last.put(0, form, 39, 1);
            foundAre(last, 0, 0, 39, 0);
            last.put(0, form, 39, -1);
            foundAre(last, 0, 39, 0, 0);
            PeriodGates all = withRow(form, 1, 2);
            all.blank(0, 0);
            foundAre(all, 0, 1, 1, 1);
            all.blank(0, 1);
            foundAre(all, 0, Check.NONE, Check.NONE, 2);
        }
        // These two are like ones as floats, but not as doubles.
        foundAre(withRow(2, 16777216, 16777217), 0, 0, 0, 0);
        foundAre(withRow(3, 16777216, 16777217), 0, 0, 1, 0);
        Sentences.of(39, "how many are no numbers (2).");
        PeriodGates x = withSheets(40);
        for (int i = 0; i < 40; i++) {
            due("found(3, 2)", x.found(3, 2), i);
            due("found(2, 2)", x.found(2, 2), i);
            x.blank(3, i);
            x.blank(2, i);
        }
        due("found(3, 2), all", x.found(3, 2), 40);
        due("found(2, 2), all", x.found(2, 2), 40);
    }

    private static void foundRefused() {
        Sentences.of(39, "BAD");
        PeriodGates x = new PeriodGates();
        int[][] bad = {{-1, 0}, {4, 0}, {LEAST, 0}, {MOST, 0}, {0, -1}, {0, 3}, {0, LEAST}, {0, MOST}};
        for (int[] b : bad) {
            due("found(" + b[0] + ", " + b[1] + "), LOST", x.found(b[0], b[1]), Check.BAD);
        }
        due("count(8)", x.count(8), 0);
        Sentences.of(39, "NULL");
        for (int what = 0; what <= 2; what++) {
            due("found(3, " + what + ")", new PeriodGates().found(3, what), Check.NULL);
        }
        Sentences.of(39, "CAST");
        PeriodGates y = withSheets(0);
        for (int s = 0; s <= 1; s++) {
            for (int what = 0; what <= 2; what++) {
                due("found(" + s + ", " + what + ")", y.found(s, what), Check.CAST);
            }
        }
        due("found(0, 3), BAD ahead of CAST", y.found(0, 3), Check.BAD);
        due("count(8)", y.count(8), 3);
    }

    private static void count() {
        Sentences.of(40, "0 EDGES, 1 BINS, 2 HITS together, 3 GATES, 4 LOST in all GAPS together, 5 BREAKS, 6 SPANS that have a"
            + " RANK, 7 bytes of MODE,");
        PeriodGates x = new PeriodGates();
        int[] none = {0, 1, 0, 0, 0, 0, 0, 0};
        for (int what = 0; what <= 7; what++) {
            due("count(" + what + "), at first", x.count(what), none[what]);
        }
        x.edges(0, 180, 32);
        x.nominal(1);
        for (int k = 1; k <= 11; k++) {
            x.cut(k);
        }
        for (int g = 0; g < 9; g++) {
            x.gate(g, 10);
        }
        x.sweep(1, 400);
        Check.type(x, "abcdef");
        int[] most = {32, 12, 400, 8, 279, 31, 15, 5};
        for (int what = 0; what <= 7; what++) {
            due("count(" + what + "), as many as there can be", x.count(what), most[what]);
        }
        x.mend(1);
        due("count(4), mended", x.count(4), 279);
        int[] spans = {0, 0, 0, 1, 1, 2};
        x.clear();
        for (int n = 0; n < spans.length; n++) {
            due("count(6), " + n + " EDGES", x.count(6), spans[n]);
            x.edge(n);
        }
        PeriodGates last = new PeriodGates();
        last.edges(0, 60, 30);
        due("count(6), 30 EDGES", last.count(6), 14);
        last.edge(5999);
        due("count(6), 31 EDGES", last.count(6), 15);
        Sentences.of(40, "8 the number of the latest FINDING (0 before any).");
        PeriodGates y = new PeriodGates();
        due("count(8)", y.count(8), 0);
        y.edge(-1);
        y.back();
        due("count(8), BAD and NOT are none", y.count(8), 0);
        y.sheet(0, 0, -1);
        due("count(8), SIZE", y.count(8), 5);
        y.get(0, 0);
        due("count(8), NULL", y.count(8), 1);
        y.sheet(0, 0, 0);
        y.sheet(1, 1, 0);
        due("count(8), it stays", y.count(8), 1);
        y.get(0, 0);
        due("count(8), INDEX", y.count(8), 2);
        y.write(0);
        due("count(8), CAST", y.count(8), 3);
        y.copy(0, 0, 1, 0, 0);
        due("count(8), STORE", y.count(8), 4);
        y.count(9);
        due("count(8), BAD is none", y.count(8), 4);
        Sentences.of(40, "BAD.");
        for (int what : new int[] {-1, 9, LEAST, MOST}) {
            due("count(" + what + ")", y.count(what), Check.BAD);
        }
    }

    /** What digest() tells, asked of the object itself. */
    private static long digestOf(PeriodGates x) {
        Mix h = new Mix();
        for (int what = 0; what <= 7; what++) {
            h.and(x.count(what));
        }
        h.and(x.mode());
        for (int b = 0; b < x.count(1); b++) {
            h.and(x.bin(b, 0)).and(x.bin(b, 1)).and(x.bin(b, 2)).and(x.dense(b, 0)).and(x.dense(b, 1));
        }
        h.and(x.worst());
        for (int i = 0; i < x.count(0); i++) {
            for (int what = 0; what <= 7; what++) {
                h.and(x.seen(i, what));
            }
            h.and(x.stamp(i, 0)).and(x.stamp(i, 1));
        }
        h.and(x.reference(0)).and(x.reference(1));
        for (int g = 0; g < x.count(3); g++) {
            h.and(x.where(g, 0)).and(x.where(g, 1)).and(x.where(g, 2));
            for (int of = 0; of <= 3; of++) {
                h.and(x.frequency(g, of, 0)).and(x.frequency(g, of, 1));
            }
            h.and(x.closing(g));
        }
        h.and(x.chain(3, 0, 3)).and(x.chain(3, 0, 4));
        for (int what = 0; what <= 4; what++) {
            h.and(x.chain(7, 1, what));
        }
        int last = x.count(0) - 1;
        if (last >= 1) {
            h.and(x.fit(0, last, 0)).and(x.fit(0, last, 1)).and(x.off(0, last));
        }
        h.and(x.gain(5, 0)).and(x.gain(5, 1));
        for (int m = 1; m <= 15; m++) {
            h.and(x.variance(m, 0)).and(x.variance(m, 1));
        }
        for (int k = 0; k < x.count(6); k++) {
            h.and(x.rank(k));
        }
        return h.value;
    }

    private static final class Mix {
        private long value = 17;

        Mix and(long answer) {
            value = 31 * value + answer;
            return this;
        }
    }

    private static void digest() {
        Sentences.of(41, "h is 17; h becomes 31 h and each of (of each thing all that is told of it, then of the next one):"
            + " count() 0 to 7; mode(); of BINS bin() 0 to 2, dense(of it, 0 and 1); worst(); of EDGES seen() 0 to 7, stamp(of"
            + " it, 0 and 1); reference(0 and 1); of GATES where() 0 to 2, frequency(of it, 0 to 3, each 0 and 1), closing();"
            + " chain(3, 0, 3 and 4), chain(7, 1, 0 to 4); fit() and off() of EDGE 0 and the last one, if there are two;"
            + " gain(5, 0 and 1); of SPANS variance(of it, 0 and 1); of those that have a RANK rank(); as longs that wrap.");
        due("digest(), empty", new PeriodGates().digest(), digestOf(new PeriodGates()));
        for (int edges = 1; edges <= 3; edges++) {
            PeriodGates x = new PeriodGates();
            x.edges(50, 100, edges);
            due("digest(), " + edges + " EDGES", x.digest(), digestOf(x));
        }
        PeriodGates full = new PeriodGates();
        Oracle o = new Oracle();
        full.edges(0, 193, 32);
        o.edges(0, 193, 32);
        for (int k = 1; k <= 11; k++) {
            full.cut(5 * k);
            o.cut(5 * k);
        }
        for (int g = 0; g < 8; g++) {
            full.gate(100 * g, 5999 - 700 * g);
            o.gate(100 * g, 5999 - 700 * g);
        }
        for (char c : "dense".toCharArray()) {
            full.type(c);
            o.type(c);
        }
        due("digest(), full but for HITS", full.digest(), o.digest());
        full.sweep(7, 400);
        o.sweep(7, 400);
        due("digest(), full", full.digest(), o.digest());
        full.mend(1);
        full.nominal(19);
        o.mend(1);
        o.nominal(19);
        due("digest(), full and mended", full.digest(), o.digest());
        due("digest(), it changes nothing", full.digest(), o.digest());
        due("count(8), it finds nothing", full.count(8), 0);
    }
}
