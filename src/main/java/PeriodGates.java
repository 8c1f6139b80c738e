/** Frequency told by whole periods; the document's promises say what each call answers. */
public final class PeriodGates {

    public static final int NONE = -1, BAD = -2, NOT = -3, FULL = -4;

    private static final int NULL = 1, INDEX = 2, CAST = 3, STORE = 4, SIZE = 5;

    private static final int TIME_END = 6000;
    private static final int FINE_END = 60;
    private static final int EDGE_LIMIT = 32;
    private static final int STEP_LIMIT = 600;
    private static final int BIN_LIMIT = 12;
    private static final int HIT_LIMIT = 400;
    private static final int HIT_STEP_LIMIT = 99;
    private static final int MODE_LIMIT = 5;
    private static final int NOMINAL_LIMIT = 600;
    private static final int LOST_LIMIT = 9;
    private static final int GATE_LIMIT = 8;
    private static final int CHAIN_LIMIT = 99;
    private static final int SPAN_LIMIT = 15;
    private static final int SHEET_COUNT = 4;
    private static final int ITEM_LIMIT = 40;

    private static final int LINE = 0, DENSE = 1, KNOWN = 2;
    private static final int NO_FORM = -1, INTS = 0, LONGS = 1, FLOATS = 2, DOUBLES = 3;

    private static final long LEAST_LONG = 0x8000000000000000L;
    // Euclid's steps on two longs stay below this, so it only makes the loop's end visible.
    private static final int EUCLID_LIMIT = 100;

    private final Track track = new Track();
    private final Bins bins = new Bins();
    private final Gates gates = new Gates();
    private final Reading reading = new Reading();
    private final Spans spans = new Spans();
    private final Sheet[] sheets = new Sheet[SHEET_COUNT];
    private final int[] modeBytes = new int[MODE_LIMIT];
    private int modeSize = 0;
    private int nominalPeriod = 0;
    private int mending = 0;
    private int latestFinding = 0;
    // What is derived is made anew by the first call that asks for it behind a change.
    private boolean stale = true;

    public PeriodGates() {
        for (int s = 0; s < SHEET_COUNT; s++) {
            sheets[s] = new Sheet();
        }
    }

    // ---- edges, bins

    public int edge(int time) {
        if (!isTime(time)) {
            return BAD;
        }
        if (track.holds(time)) {
            return NOT;
        }
        if (track.isFull()) {
            return FULL;
        }
        stale = true;
        return track.insert(time);
    }

    public int edges(int a, int d, int n) {
        if (!isTime(a) || !isWithin(d, 1, STEP_LIMIT) || !isWithin(n, 1, EDGE_LIMIT)) {
            return BAD;
        }
        stale = true;
        for (int k = 0; k < n; k++) {
            int time = a + k * d;
            if (track.isFull() || !isTime(time) || track.holds(time)) {
                return k;
            }
            track.insert(time);
        }
        return n;
    }

    public int gone(int i) {
        if (!isEdge(i)) {
            return BAD;
        }
        stale = true;
        return track.removeAt(i);
    }

    public int clear() {
        int had = track.size;
        track.size = 0;
        stale = true;
        return had;
    }

    public int cut(int fine) {
        if (!isWithin(fine, 1, FINE_END - 1)) {
            return BAD;
        }
        int code = bins.codeOf(fine);
        if (bins.starts[code] == fine) {
            bins.joinToPrevious(code);
        } else if (bins.size < BIN_LIMIT) {
            bins.split(code, fine);
        } else {
            return FULL;
        }
        stale = true;
        return bins.size;
    }

    public int hit(int fine, int n) {
        if (!isFine(fine) || !isWithin(n, 1, HIT_STEP_LIMIT)) {
            return BAD;
        }
        if (bins.total + n > HIT_LIMIT) {
            return FULL;
        }
        stale = true;
        return bins.addHits(fine, n);
    }

    public int sweep(int d, int n) {
        if (!isWithin(d, 1, FINE_END - 1) || !isWithin(n, 1, HIT_LIMIT)) {
            return BAD;
        }
        if (bins.total + n > HIT_LIMIT) {
            return FULL;
        }
        stale = true;
        for (int k = 0; k < n; k++) {
            bins.addHits(k * d % FINE_END, 1);
        }
        return bins.total;
    }

    public int fresh() {
        int had = bins.total;
        bins.forgetHits();
        stale = true;
        return had;
    }

    public int bin(int b, int what) {
        if (!isBin(b) || !isWithin(what, 0, 2)) {
            return BAD;
        }
        if (what == 0) {
            return bins.starts[b];
        }
        return what == 1 ? bins.widthOf(b) : bins.hits[b];
    }

    public long dense(int b, int what) {
        if (!isBin(b) || !isHalf(what)) {
            return refusal(BAD);
        }
        if (bins.total == 0) {
            return refusal(NOT);
        }
        return lowest((long) FINE_END * bins.hits[b], bins.total, what);
    }

    public int worst() {
        return bins.total == 0 ? NOT : bins.farthest();
    }

    // ---- how they are seen

    public int type(int b) {
        if (!isWithin(b, 0, 255)) {
            return BAD;
        }
        if (modeSize >= MODE_LIMIT) {
            return FULL;
        }
        modeBytes[modeSize] = b;
        modeSize++;
        stale = true;
        return modeSize;
    }

    public int wipe() {
        int had = modeSize;
        modeSize = 0;
        stale = true;
        return had;
    }

    public int mode() {
        if (modeReads("dense")) {
            return DENSE;
        }
        return modeReads("known") ? KNOWN : LINE;
    }

    public int nominal(int p) {
        if (!isWithin(p, 0, NOMINAL_LIMIT)) {
            return BAD;
        }
        int was = nominalPeriod;
        nominalPeriod = p;
        stale = true;
        return was;
    }

    public int mend(int v) {
        if (!isWithin(v, 0, 1)) {
            return BAD;
        }
        int was = mending;
        mending = v;
        stale = true;
        return was;
    }

    public int seen(int i, int what) {
        if (!isEdge(i) || !isWithin(what, 0, 7)) {
            return BAD;
        }
        renew();
        switch (what) {
            case 0:
                return track.times[i];
            case 1:
                return track.coarseOf(i);
            case 2:
                return bins.codeOf(track.fineOf(i));
            case 3:
                return leastBound(i);
            case 4:
                return greatestBound(i);
            case 5:
                return reading.places[i];
            case 6:
                return isLastEdge(i) ? NONE : reading.lost[i];
            default:
                return !isLastEdge(i) && reading.breaks[i] ? 1 : 0;
        }
    }

    public long stamp(int i, int what) {
        if (!isEdge(i) || !isHalf(what)) {
            return refusal(BAD);
        }
        renew();
        return lowest(reading.stamps[i], reading.scale, what);
    }

    public long reference(int what) {
        if (!isHalf(what)) {
            return refusal(BAD);
        }
        if (nominalPeriod == 0 && track.size < 2) {
            return refusal(NOT);
        }
        renew();
        return lowest(reading.reference, reading.scale, what);
    }

    // ---- gates

    public int gate(int a, int b) {
        if (!isTime(a) || !isTime(b) || a >= b) {
            return BAD;
        }
        if (gates.size >= GATE_LIMIT) {
            return FULL;
        }
        stale = true;
        return gates.append(a, b);
    }

    public int back() {
        if (gates.size == 0) {
            return NOT;
        }
        gates.size--;
        stale = true;
        return gates.size;
    }

    public int where(int g, int what) {
        if (!isGate(g) || !isWithin(what, 0, 2)) {
            return BAD;
        }
        renew();
        int opens = gates.opens[g];
        int closes = gates.closes[g];
        if (what == 2) {
            return closes == NONE ? NONE : reading.periods(opens, closes);
        }
        return what == 0 ? opens : closes;
    }

    public long frequency(int g, int of, int what) {
        if (!isGate(g) || !isWithin(of, 0, 3) || !isHalf(what)) {
            return refusal(BAD);
        }
        renew();
        int opens = gates.opens[g];
        int closes = gates.closes[g];
        if (closes == NONE) {
            return refusal(NOT);
        }
        long length = lengthBetween(opens, closes, of);
        if (length <= 0) {
            return refusal(NOT);
        }
        long periods = reading.periods(opens, closes);
        return lowest(of == 0 ? periods * reading.scale : periods, length, what);
    }

    public int closing(int k) {
        if (!isGate(k)) {
            return BAD;
        }
        renew();
        return gates.closingAt(k);
    }

    public int chain(int g, int k, int what) {
        if (!isWithin(g, 1, CHAIN_LIMIT) || !isWithin(what, 0, 4)) {
            return BAD;
        }
        renew();
        int opens = 0;
        int number = 0;
        int together = 0;
        for (int i = 1; i < track.size; i++) {
            if (track.coarseOf(i) - track.coarseOf(opens) >= g) {
                int periods = reading.periods(opens, i);
                if (what <= 2 && number == k) {
                    return what == 0 ? opens : what == 1 ? i : periods;
                }
                together += periods;
                number++;
                opens = i;
            }
        }
        if (what <= 2) {
            return BAD;
        }
        return what == 3 ? number : together;
    }

    // ---- all edges

    public long fit(int i, int j, int what) {
        if (!isEdgePair(i, j) || !isHalf(what)) {
            return refusal(BAD);
        }
        renew();
        return lowest(reading.fitAbove(i, j), reading.fitBelow(i, j) * reading.scale, what);
    }

    public int off(int i, int j) {
        if (!isEdgePair(i, j)) {
            return BAD;
        }
        renew();
        return reading.farthest(i, j);
    }

    public long gain(int m, int what) {
        if (!isWithin(m, 3, EDGE_LIMIT) || !isHalf(what)) {
            return refusal(BAD);
        }
        // The squares of WEIGHTS come to 2 / (m-1)^2 by ends, to 12 / (m (m^2 - 1)) by FIT.
        return lowest((long) m * (m + 1), 6L * (m - 1), what);
    }

    public long variance(int m, int what) {
        if (!isWithin(m, 1, SPAN_LIMIT) || !isHalf(what)) {
            return refusal(BAD);
        }
        renew();
        if (m > spans.size) {
            return refusal(NOT);
        }
        long scale = reading.scale;
        return lowest(spans.sums[m], 2 * spans.weights[m] * scale * scale, what);
    }

    public int rank(int k) {
        renew();
        return isWithin(k, 0, spans.size - 1) ? spans.ranked[k] : BAD;
    }

    // ---- sheets

    public int sheet(int s, int form, int n) {
        if (!isSheet(s) || !isForm(form) || n > ITEM_LIMIT) {
            return BAD;
        }
        if (n < 0) {
            return finding(SIZE);
        }
        sheets[s].begin(form, n);
        return n;
    }

    public int lose(int s) {
        if (!isSheet(s)) {
            return BAD;
        }
        Sheet row = sheets[s];
        if (row.isLost()) {
            return finding(NULL);
        }
        row.form = NO_FORM;
        return row.size;
    }

    public int put(int s, int form, int i, int v) {
        if (!isSheet(s) || !isForm(form)) {
            return BAD;
        }
        Sheet row = sheets[s];
        if (row.isLost()) {
            return finding(NULL);
        }
        if (row.form != form) {
            return finding(CAST);
        }
        if (!row.has(i)) {
            return finding(INDEX);
        }
        row.store(i, v);
        return 1;
    }

    public int blank(int s, int i) {
        if (!isSheet(s)) {
            return BAD;
        }
        Sheet row = sheets[s];
        if (row.isLost()) {
            return finding(NULL);
        }
        if (!row.holdsReals()) {
            return finding(CAST);
        }
        if (!row.has(i)) {
            return finding(INDEX);
        }
        row.noNumber[i] = true;
        return 1;
    }

    public long get(int s, int i) {
        if (!isSheet(s)) {
            return refusal(BAD);
        }
        Sheet row = sheets[s];
        if (row.isLost()) {
            return refusal(finding(NULL));
        }
        if (!row.has(i)) {
            return refusal(finding(INDEX));
        }
        return row.noNumber[i] ? refusal(NONE) : row.told(i);
    }

    public int copy(int s, int i, int t, int j, int n) {
        if (!isSheet(s) || !isSheet(t)) {
            return BAD;
        }
        Sheet source = sheets[s];
        Sheet target = sheets[t];
        if (source.isLost() || target.isLost()) {
            return finding(NULL);
        }
        if (source.form != target.form) {
            return finding(STORE);
        }
        if (!source.hasRange(i, n) || !target.hasRange(j, n)) {
            return finding(INDEX);
        }
        target.take(source, i, j, n);
        return 1;
    }

    public int write(int s) {
        if (!isSheet(s)) {
            return BAD;
        }
        Sheet row = sheets[s];
        if (row.isLost()) {
            return finding(NULL);
        }
        if (row.form != DOUBLES) {
            return finding(CAST);
        }
        renew();
        int numbers = 0;
        for (int m = 1; m <= SPAN_LIMIT && m <= row.size; m++) {
            boolean there = m <= spans.size;
            row.noNumber[m - 1] = !there;
            if (there) {
                row.reals[m - 1] = (double) variance(m, 0) / (double) variance(m, 1);
                numbers++;
            }
        }
        return numbers;
    }

    public int found(int s, int what) {
        if (!isSheet(s) || !isWithin(what, 0, 2)) {
            return BAD;
        }
        Sheet row = sheets[s];
        if (row.isLost()) {
            return finding(NULL);
        }
        if (!row.holdsReals()) {
            return finding(CAST);
        }
        return what == 2 ? row.countNoNumbers() : row.extreme(what == 1);
    }

    public int count(int what) {
        if (!isWithin(what, 0, 8)) {
            return BAD;
        }
        renew();
        switch (what) {
            case 0:
                return track.size;
            case 1:
                return bins.size;
            case 2:
                return bins.total;
            case 3:
                return gates.size;
            case 4:
                return reading.lostTogether;
            case 5:
                return reading.breaksTogether;
            case 6:
                return spans.size;
            case 7:
                return modeSize;
            default:
                return latestFinding;
        }
    }

    public long digest() {
        long h = 17;
        for (int what = 0; what <= 7; what++) {
            h = mix(h, count(what));
        }
        h = mix(h, mode());
        h = mixBins(h);
        h = mix(h, worst());
        h = mixEdges(h);
        h = mix(mix(h, reference(0)), reference(1));
        h = mixGates(h);
        h = mixChains(h);
        h = mixFit(h);
        h = mix(mix(h, gain(5, 0)), gain(5, 1));
        return mixSpans(h);
    }

    // ---- what digest() is made of

    private static long mix(long h, long answer) {
        return 31 * h + answer;
    }

    private long mixBins(long start) {
        long h = start;
        for (int b = 0; b < bins.size; b++) {
            for (int what = 0; what <= 2; what++) {
                h = mix(h, bin(b, what));
            }
            h = mix(mix(h, dense(b, 0)), dense(b, 1));
        }
        return h;
    }

    private long mixEdges(long start) {
        long h = start;
        for (int i = 0; i < track.size; i++) {
            for (int what = 0; what <= 7; what++) {
                h = mix(h, seen(i, what));
            }
            h = mix(mix(h, stamp(i, 0)), stamp(i, 1));
        }
        return h;
    }

    private long mixGates(long start) {
        long h = start;
        for (int g = 0; g < gates.size; g++) {
            for (int what = 0; what <= 2; what++) {
                h = mix(h, where(g, what));
            }
            for (int of = 0; of <= 3; of++) {
                h = mix(mix(h, frequency(g, of, 0)), frequency(g, of, 1));
            }
            h = mix(h, closing(g));
        }
        return h;
    }

    private long mixChains(long start) {
        long h = mix(mix(start, chain(3, 0, 3)), chain(3, 0, 4));
        for (int what = 0; what <= 4; what++) {
            h = mix(h, chain(7, 1, what));
        }
        return h;
    }

    private long mixFit(long start) {
        if (track.size < 2) {
            return start;
        }
        int last = track.size - 1;
        return mix(mix(mix(start, fit(0, last, 0)), fit(0, last, 1)), off(0, last));
    }

    private long mixSpans(long start) {
        long h = start;
        for (int m = 1; m <= SPAN_LIMIT; m++) {
            h = mix(mix(h, variance(m, 0)), variance(m, 1));
        }
        for (int k = 0; k < spans.size; k++) {
            h = mix(h, rank(k));
        }
        return h;
    }

    // ---- what numbers are as told

    private static boolean isWithin(int value, int least, int greatest) {
        return value >= least && value <= greatest;
    }

    private static boolean isTime(int time) {
        return isWithin(time, 0, TIME_END - 1);
    }

    private static boolean isFine(int fine) {
        return isWithin(fine, 0, FINE_END - 1);
    }

    /** Whether it asks for what is above, or for what is below. */
    private static boolean isHalf(int what) {
        return what == 0 || what == 1;
    }

    private static boolean isSheet(int s) {
        return isWithin(s, 0, SHEET_COUNT - 1);
    }

    private static boolean isForm(int form) {
        return isWithin(form, INTS, DOUBLES);
    }

    private boolean isEdge(int i) {
        return isWithin(i, 0, track.size - 1);
    }

    private boolean isEdgePair(int i, int j) {
        return isEdge(i) && isEdge(j) && i < j;
    }

    private boolean isLastEdge(int i) {
        return i == track.size - 1;
    }

    private boolean isBin(int b) {
        return isWithin(b, 0, bins.size - 1);
    }

    private boolean isGate(int g) {
        return isWithin(g, 0, gates.size - 1);
    }

    // ---- answers

    private static long refusal(int answer) {
        return LEAST_LONG - answer;
    }

    private int finding(int number) {
        latestFinding = number;
        return -10 - number;
    }

    /** One half of a fraction in lowest terms; above is not below 0, below is above 0. */
    private static long lowest(long above, long below, int what) {
        long divisor = commonDivisor(above, below);
        long half = what == 0 ? above : below;
        return divisor > 1 ? half / divisor : half;
    }

    private static long commonDivisor(long a, long b) {
        long greater = a;
        long lesser = b;
        for (int step = 0; step < EUCLID_LIMIT && lesser != 0; step++) {
            long rest = greater % lesser;
            greater = lesser;
            lesser = rest;
        }
        return greater;
    }

    // ---- what is derived

    private void renew() {
        if (stale) {
            stale = false;
            reading.renewStamps(track, bins, mode());
            reading.renewPlaces(nominalPeriod, mending);
            gates.locate(track);
            spans.renewSums(reading);
        }
    }

    private boolean modeReads(String name) {
        if (name.length() != modeSize) {
            return false;
        }
        for (int k = 0; k < modeSize; k++) {
            if (name.charAt(k) != modeBytes[k]) {
                return false;
            }
        }
        return true;
    }

    private int leastBound(int i) {
        return FINE_END * track.coarseOf(i) + bins.starts[bins.codeOf(track.fineOf(i))];
    }

    private int greatestBound(int i) {
        return FINE_END * track.coarseOf(i) + bins.endOf(bins.codeOf(track.fineOf(i))) - 1;
    }

    private long lengthBetween(int opens, int closes, int of) {
        switch (of) {
            case 0:
                return reading.stamps[closes] - reading.stamps[opens];
            case 1:
                return greatestBound(closes) - leastBound(opens);
            case 2:
                return leastBound(closes) - greatestBound(opens);
            default:
                return track.times[closes] - track.times[opens];
        }
    }

    /** EDGES, in the order of their TIMES. */
    static final class Track {
        final int[] times = new int[EDGE_LIMIT];
        int size = 0;

        boolean isFull() {
            return size >= EDGE_LIMIT;
        }

        /** The first EDGE at a TIME or later; size, if there is none. */
        int firstFrom(int time) {
            for (int i = 0; i < size; i++) {
                if (times[i] >= time) {
                    return i;
                }
            }
            return size;
        }

        boolean holds(int time) {
            int i = firstFrom(time);
            return i < size && times[i] == time;
        }

        int insert(int time) {
            int at = firstFrom(time);
            for (int i = size; i > at; i--) {
                times[i] = times[i - 1];
            }
            times[at] = time;
            size++;
            return at;
        }

        int removeAt(int at) {
            int time = times[at];
            size--;
            for (int i = at; i < size; i++) {
                times[i] = times[i + 1];
            }
            return time;
        }

        int coarseOf(int i) {
            return times[i] / FINE_END;
        }

        int fineOf(int i) {
            return times[i] % FINE_END;
        }
    }

    /** BINS, each from its least FINE on, and how often each was hit. */
    static final class Bins {
        final int[] starts = new int[BIN_LIMIT];
        final int[] hits = new int[BIN_LIMIT];
        int size = 1;
        int total = 0;

        int codeOf(int fine) {
            int code = 0;
            for (int b = 1; b < size; b++) {
                if (starts[b] <= fine) {
                    code = b;
                }
            }
            return code;
        }

        int endOf(int b) {
            return b + 1 < size ? starts[b + 1] : FINE_END;
        }

        int widthOf(int b) {
            return endOf(b) - starts[b];
        }

        void split(int b, int fine) {
            for (int k = size; k > b + 1; k--) {
                starts[k] = starts[k - 1];
            }
            starts[b + 1] = fine;
            size++;
            forgetHits();
        }

        void joinToPrevious(int b) {
            size--;
            for (int k = b; k < size; k++) {
                starts[k] = starts[k + 1];
            }
            forgetHits();
        }

        int addHits(int fine, int n) {
            int code = codeOf(fine);
            hits[code] += n;
            total += n;
            return hits[code];
        }

        void forgetHits() {
            for (int b = 0; b < BIN_LIMIT; b++) {
                hits[b] = 0;
            }
            total = 0;
        }

        int hitsBelow(int code) {
            int sum = 0;
            for (int b = 0; b < code; b++) {
                sum += hits[b];
            }
            return sum;
        }

        /** WORST; both widths are taken times all HITS, so that they are whole. */
        int farthest() {
            int farthest = 0;
            int greatest = -1;
            for (int b = 0; b < size; b++) {
                int distance = Math.abs(FINE_END * hits[b] - widthOf(b) * total);
                if (distance > greatest) {
                    greatest = distance;
                    farthest = b;
                }
            }
            return farthest;
        }
    }

    /** EDGES as they are seen. STAMPS, GAPS and REFERENCE are kept times scale: so they are whole. */
    static final class Reading {
        final long[] stamps = new long[EDGE_LIMIT];
        final int[] lost = new int[EDGE_LIMIT];
        final boolean[] breaks = new boolean[EDGE_LIMIT];
        final int[] places = new int[EDGE_LIMIT];
        final long[] sortedGaps = new long[EDGE_LIMIT];
        int size = 0;
        int scale = 1;
        long reference = 0;
        int lostTogether = 0;
        int breaksTogether = 0;

        void renewStamps(Track track, Bins bins, int mode) {
            int taken = mode == DENSE && bins.total == 0 ? LINE : mode;
            scale = taken == KNOWN ? 2 : taken == DENSE ? bins.total : bins.size;
            size = track.size;
            for (int i = 0; i < size; i++) {
                int middle = middleOf(bins, bins.codeOf(track.fineOf(i)), taken);
                stamps[i] = (long) FINE_END * track.coarseOf(i) * scale + middle;
            }
        }

        private static int middleOf(Bins bins, int code, int taken) {
            if (taken == KNOWN) {
                return bins.starts[code] + bins.endOf(code);
            }
            int halves = taken == DENSE ? 2 * bins.hitsBelow(code) + bins.hits[code] : 2 * code + 1;
            return FINE_END / 2 * halves;
        }

        void renewPlaces(int nominalPeriod, int mending) {
            reference = nominalPeriod > 0 ? (long) nominalPeriod * scale : medianGap();
            lostTogether = 0;
            breaksTogether = 0;
            for (int i = 0; i < size; i++) {
                places[i] = mending == 1 ? i + lostTogether : i;
                if (i + 1 < size) {
                    judgeGap(i);
                }
            }
        }

        private void judgeGap(int i) {
            long missing = 0;
            if (reference > 0) {
                missing = (2 * gapBehind(i) + reference) / (2 * reference) - 1;
            }
            breaks[i] = missing > LOST_LIMIT;
            lost[i] = (int) Math.max(0, Math.min(LOST_LIMIT, missing));
            lostTogether += lost[i];
            breaksTogether += breaks[i] ? 1 : 0;
        }

        private long gapBehind(int i) {
            return stamps[i + 1] - stamps[i];
        }

        /** The lower one of two in the middle; 0, if there are no GAPS. */
        private long medianGap() {
            int gaps = size - 1;
            if (gaps < 1) {
                return 0;
            }
            for (int i = 0; i < gaps; i++) {
                long gap = gapBehind(i);
                int at = i;
                for (; at > 0 && sortedGaps[at - 1] > gap; at--) {
                    sortedGaps[at] = sortedGaps[at - 1];
                }
                sortedGaps[at] = gap;
            }
            return sortedGaps[(gaps - 1) / 2];
        }

        int periods(int opens, int closes) {
            return places[closes] - places[opens];
        }

        long sumOfPlaces(int i, int j) {
            long sum = 0;
            for (int k = i; k <= j; k++) {
                sum += places[k];
            }
            return sum;
        }

        long sumOfStamps(int i, int j) {
            long sum = 0;
            for (int k = i; k <= j; k++) {
                sum += stamps[k];
            }
            return sum;
        }

        long fitAbove(int i, int j) {
            long products = 0;
            for (int k = i; k <= j; k++) {
                products += places[k] * stamps[k];
            }
            return (j - i + 1) * products - sumOfPlaces(i, j) * sumOfStamps(i, j);
        }

        long fitBelow(int i, int j) {
            long squares = 0;
            for (int k = i; k <= j; k++) {
                squares += (long) places[k] * places[k];
            }
            long sum = sumOfPlaces(i, j);
            return (j - i + 1) * squares - sum * sum;
        }

        /** OFF; each distance is taken times how many EDGES there are and times fitBelow. */
        int farthest(int i, int j) {
            long m = j - i + 1;
            long above = fitAbove(i, j);
            long below = fitBelow(i, j);
            long placeSum = sumOfPlaces(i, j);
            long stampSum = sumOfStamps(i, j);
            int farthest = i;
            long greatest = -1;
            for (int k = i; k <= j; k++) {
                long rise = above * (m * places[k] - placeSum);
                long distance = Math.abs(below * (m * stamps[k] - stampSum) - rise);
                if (distance > greatest) {
                    greatest = distance;
                    farthest = k;
                }
            }
            return farthest;
        }
    }

    /** GATES, and the EDGES where they OPEN and CLOSE. */
    static final class Gates {
        final int[] starts = new int[GATE_LIMIT];
        final int[] ends = new int[GATE_LIMIT];
        final int[] opens = new int[GATE_LIMIT];
        final int[] closes = new int[GATE_LIMIT];
        int size = 0;

        int append(int start, int end) {
            starts[size] = start;
            ends[size] = end;
            size++;
            return size - 1;
        }

        void locate(Track track) {
            for (int g = 0; g < size; g++) {
                int first = track.firstFrom(starts[g]);
                int last = track.firstFrom(ends[g]);
                opens[g] = first < track.size ? first : NONE;
                closes[g] = last < track.size && last > first ? last : NONE;
            }
        }

        /** The GATE that has k others ahead of it. */
        int closingAt(int k) {
            for (int g = 0; g < size; g++) {
                int ahead = 0;
                for (int other = 0; other < size; other++) {
                    if (closesAhead(other, g)) {
                        ahead++;
                    }
                }
                if (ahead == k) {
                    return g;
                }
            }
            return NONE;
        }

        private boolean closesAhead(int a, int b) {
            if (closes[a] != closes[b]) {
                return closes[b] == NONE || (closes[a] != NONE && closes[a] < closes[b]);
            }
            // Those that never CLOSE go by their numbers alone.
            if (closes[a] != NONE && opens[a] != opens[b]) {
                return opens[a] < opens[b];
            }
            return a < b;
        }
    }

    /** VARIANCES at all SPANS that have one; a SPAN's number is its index in sums and weights. */
    static final class Spans {
        final long[] sums = new long[SPAN_LIMIT + 1];
        final long[] weights = new long[SPAN_LIMIT + 1];
        final int[] ranked = new int[SPAN_LIMIT];
        int size = 0;

        void renewSums(Reading reading) {
            size = Math.max(0, Math.min(SPAN_LIMIT, (reading.size - 1) / 2));
            for (int m = 1; m <= size; m++) {
                int triples = reading.size - 2 * m;
                sums[m] = sumOfSquares(reading.stamps, m, triples);
                weights[m] = (long) m * m * triples;
                placeByRank(m);
            }
        }

        private static long sumOfSquares(long[] stamps, int m, int triples) {
            long sum = 0;
            for (int i = 0; i < triples; i++) {
                long bend = stamps[i + 2 * m] - 2 * stamps[i + m] + stamps[i];
                sum += bend * bend;
            }
            return sum;
        }

        private void placeByRank(int m) {
            int at = m - 1;
            for (; at > 0 && isSteadier(m, ranked[at - 1]); at--) {
                ranked[at] = ranked[at - 1];
            }
            ranked[at] = m;
        }

        private boolean isSteadier(int m, int other) {
            return sums[m] * weights[other] < sums[other] * weights[m];
        }
    }

    /** A row of a FORM. Floats stand as the doubles they equal; what is no number is marked beside. */
    static final class Sheet {
        final long[] wholes = new long[ITEM_LIMIT];
        final double[] reals = new double[ITEM_LIMIT];
        final boolean[] noNumber = new boolean[ITEM_LIMIT];
        int form = NO_FORM;
        int size = 0;

        boolean isLost() {
            return form == NO_FORM;
        }

        boolean holdsReals() {
            return form == FLOATS || form == DOUBLES;
        }

        boolean has(int i) {
            return i >= 0 && i < size;
        }

        boolean hasRange(int from, int n) {
            return from >= 0 && n >= 0 && from <= size && n <= size - from;
        }

        void begin(int newForm, int newSize) {
            form = newForm;
            size = newSize;
            for (int i = 0; i < ITEM_LIMIT; i++) {
                wholes[i] = 0;
                reals[i] = 0;
                noNumber[i] = false;
            }
        }

        void store(int i, int v) {
            noNumber[i] = false;
            switch (form) {
                case INTS:
                    wholes[i] = v;
                    break;
                case LONGS:
                    wholes[i] = v * 100000007L;
                    break;
                case FLOATS:
                    reals[i] = (float) v / 8;
                    break;
                default:
                    reals[i] = (double) v / 8;
                    break;
            }
        }

        long told(int i) {
            return holdsReals() ? (long) (8 * reals[i]) : wholes[i];
        }

        /** It goes downwards where items move up, so that a row may come to itself as it was. */
        void take(Sheet source, int from, int to, int n) {
            for (int k = 0; k < n; k++) {
                int step = from < to ? n - 1 - k : k;
                wholes[to + step] = source.wholes[from + step];
                reals[to + step] = source.reals[from + step];
                noNumber[to + step] = source.noNumber[from + step];
            }
        }

        int countNoNumbers() {
            int sum = 0;
            for (int i = 0; i < size; i++) {
                if (noNumber[i]) {
                    sum++;
                }
            }
            return sum;
        }

        int extreme(boolean greatest) {
            int best = NONE;
            for (int i = 0; i < size; i++) {
                if (!noNumber[i] && (best == NONE || isBeyond(reals[i], reals[best], greatest))) {
                    best = i;
                }
            }
            return best;
        }

        private static boolean isBeyond(double a, double b, boolean greatest) {
            return greatest ? a > b : a < b;
        }
    }
}
