import java.util.ArrayList;
import java.util.Arrays;
import java.util.Collections;
import java.util.Comparator;
import java.util.List;
import java.util.TreeSet;

/** The document's words once more, as slowly as they are told, over fractions without a limit. */
final class Oracle {
    private static final int NONE = -1, BAD = -2, NOT = -3, FULL = -4;

    private final TreeSet<Integer> edgeTimes = new TreeSet<>();
    private final TreeSet<Integer> cuts = new TreeSet<>();
    private final int[] codes = new int[60];
    private final int[] hitsOfFine = new int[60];
    private final StringBuilder text = new StringBuilder();
    private final List<int[]> gateList = new ArrayList<>();
    private final Object[] rows = new Object[4];
    private int nominal = 0;
    private int mend = 0;
    private int latest = 0;

    private static long far(int refusal) {
        return Long.MIN_VALUE - refusal;
    }

    private static boolean out(int v, int least, int most) {
        return v < least || v > most;
    }

    private int find(int number) {
        latest = number;
        return -10 - number;
    }

    private List<Integer> times() {
        return new ArrayList<>(edgeTimes);
    }

    // ---- edges, bins

    int edge(int time) {
        if (out(time, 0, 5999)) return BAD;
        if (edgeTimes.contains(time)) return NOT;
        if (edgeTimes.size() == 32) return FULL;
        edgeTimes.add(time);
        return edgeTimes.headSet(time).size();
    }

    int edges(int a, int d, int n) {
        if (out(a, 0, 5999) || out(d, 1, 600) || out(n, 1, 32)) return BAD;
        int made = 0;
        while (made < n && edge(a + made * d) >= 0) made++;
        return made;
    }

    int gone(int i) {
        if (out(i, 0, edgeTimes.size() - 1)) return BAD;
        int time = times().get(i);
        edgeTimes.remove(time);
        return time;
    }

    int clear() {
        int had = edgeTimes.size();
        edgeTimes.clear();
        return had;
    }

    int cut(int fine) {
        if (out(fine, 1, 59)) return BAD;
        if (!cuts.contains(fine) && cuts.size() == 11) return FULL;
        if (!cuts.remove(fine)) cuts.add(fine);
        Arrays.setAll(codes, f -> cuts.headSet(f, true).size());
        Arrays.fill(hitsOfFine, 0);
        return bins();
    }

    private int bins() {
        return cuts.size() + 1;
    }

    private int code(int fine) {
        return codes[fine];
    }

    private int leastFine(int b) {
        for (int fine = 0; fine < 60; fine++) {
            if (code(fine) == b) return fine;
        }
        return 60;
    }

    private int width(int b) {
        int w = 0;
        for (int fine = 0; fine < 60; fine++) {
            if (code(fine) == b) w++;
        }
        return w;
    }

    private int hits(int b) {
        int n = 0;
        for (int fine = 0; fine < 60; fine++) {
            if (code(fine) == b) n += hitsOfFine[fine];
        }
        return n;
    }

    private int allHits() {
        return Arrays.stream(hitsOfFine).sum();
    }

    int hit(int fine, int n) {
        if (out(fine, 0, 59) || out(n, 1, 99)) return BAD;
        if (allHits() + n > 400) return FULL;
        hitsOfFine[fine] += n;
        return hits(code(fine));
    }

    int sweep(int d, int n) {
        if (out(d, 1, 59) || out(n, 1, 400)) return BAD;
        if (allHits() + n > 400) return FULL;
        for (int k = 0; k < n; k++) hitsOfFine[d * k % 60]++;
        return allHits();
    }

    int fresh() {
        int had = allHits();
        Arrays.fill(hitsOfFine, 0);
        return had;
    }

    int bin(int b, int what) {
        if (out(b, 0, bins() - 1) || out(what, 0, 2)) return BAD;
        return new int[] {leastFine(b), width(b), hits(b)}[what];
    }

    private Fraction denseWidth(int b) {
        return Fraction.of(60 * hits(b), allHits());
    }

    long dense(int b, int what) {
        if (out(b, 0, bins() - 1) || out(what, 0, 1)) return far(BAD);
        if (allHits() == 0) return far(NOT);
        return denseWidth(b).told(what);
    }

    int worst() {
        if (allHits() == 0) return NOT;
        int best = 0;
        for (int b = 1; b < bins(); b++) {
            Fraction here = denseWidth(b).less(Fraction.of(width(b))).size();
            Fraction there = denseWidth(best).less(Fraction.of(width(best))).size();
            if (here.compareTo(there) > 0) best = b;
        }
        return best;
    }

    // ---- how they are seen

    int type(int b) {
        if (out(b, 0, 255)) return BAD;
        if (text.length() == 5) return FULL;
        return text.append((char) b).length();
    }

    int wipe() {
        int had = text.length();
        text.setLength(0);
        return had;
    }

    int mode() {
        return text.toString().equals("known") ? 2 : text.toString().equals("dense") ? 1 : 0;
    }

    int nominal(int p) {
        if (out(p, 0, 600)) return BAD;
        int was = nominal;
        nominal = p;
        return was;
    }

    int mend(int v) {
        if (out(v, 0, 1)) return BAD;
        int was = mend;
        mend = v;
        return was;
    }

    private Fraction stampOf(int time) {
        int code = code(time % 60);
        Fraction coarse = Fraction.of(60L * (time / 60));
        Fraction half = Fraction.of(1, 2);
        if (mode() == 2) {
            return coarse.plus(Fraction.of(leastFine(code) + leastFine(code + 1), 2));
        }
        if (mode() == 1 && allHits() > 0) {
            Fraction sum = half.times(Fraction.of(hits(code)));
            for (int b = 0; b < code; b++) sum = sum.plus(Fraction.of(hits(b)));
            return coarse.plus(sum.times(Fraction.of(60)).by(Fraction.of(allHits())));
        }
        return coarse.plus(half.plus(Fraction.of(code)).times(Fraction.of(60)).by(Fraction.of(bins())));
    }

    private List<Fraction> stamps() {
        List<Fraction> all = new ArrayList<>();
        for (int time : edgeTimes) all.add(stampOf(time));
        return all;
    }

    private List<Fraction> gaps() {
        List<Fraction> all = stamps();
        List<Fraction> gaps = new ArrayList<>();
        for (int i = 0; i + 1 < all.size(); i++) gaps.add(all.get(i + 1).less(all.get(i)));
        return gaps;
    }

    private Fraction referenceOf() {
        if (nominal > 0) return Fraction.of(nominal);
        List<Fraction> gaps = gaps();
        Collections.sort(gaps);
        for (int ahead = 0; ahead < gaps.size(); ahead++) {
            int behind = gaps.size() - 1 - ahead;
            if (behind == ahead || behind == ahead + 1) return gaps.get(ahead);
        }
        return null;
    }

    /** How many would be LOST in each GAP without a limit above. */
    private List<Long> missing() {
        List<Long> all = new ArrayList<>();
        Fraction reference = referenceOf();
        for (Fraction gap : gaps()) {
            long times = 0;
            if (reference.compareTo(Fraction.ZERO) != 0) {
                times = gap.by(reference).plus(Fraction.of(1, 2)).floor() - 1;
            }
            all.add(Math.max(0, times));
        }
        return all;
    }

    private int lost(List<Long> missing, int i) {
        return (int) Math.min(9, missing.get(i));
    }

    private List<Integer> places() {
        List<Long> missing = missing();
        List<Integer> all = new ArrayList<>();
        int ahead = 0;
        for (int i = 0; i < edgeTimes.size(); i++) {
            all.add(i + (mend == 1 ? ahead : 0));
            if (i < missing.size()) ahead += lost(missing, i);
        }
        return all;
    }

    private int bound(int time, boolean greatest) {
        int found = -1;
        for (int other = time / 60 * 60; other / 60 == time / 60; other++) {
            boolean same = code(other % 60) == code(time % 60);
            if (same && (greatest || found < 0)) found = other;
        }
        return found;
    }

    int seen(int i, int what) {
        if (out(i, 0, edgeTimes.size() - 1) || out(what, 0, 7)) return BAD;
        int time = times().get(i);
        boolean last = i == edgeTimes.size() - 1;
        switch (what) {
            case 0: return time;
            case 1: return time / 60;
            case 2: return code(time % 60);
            case 3: return bound(time, false);
            case 4: return bound(time, true);
            case 5: return places().get(i);
            case 6: return last ? NONE : lost(missing(), i);
            default: return !last && missing().get(i) > 9 ? 1 : 0;
        }
    }

    long stamp(int i, int what) {
        if (out(i, 0, edgeTimes.size() - 1) || out(what, 0, 1)) return far(BAD);
        return stamps().get(i).told(what);
    }

    long reference(int what) {
        if (out(what, 0, 1)) return far(BAD);
        Fraction reference = referenceOf();
        return reference == null ? far(NOT) : reference.told(what);
    }

    // ---- gates

    int gate(int a, int b) {
        if (out(a, 0, 5999) || out(b, 0, 5999) || b <= a) return BAD;
        if (gateList.size() == 8) return FULL;
        gateList.add(new int[] {a, b});
        return gateList.size() - 1;
    }

    int back() {
        if (gateList.isEmpty()) return NOT;
        gateList.remove(gateList.size() - 1);
        return gateList.size();
    }

    private int opens(int g) {
        Integer time = edgeTimes.ceiling(gateList.get(g)[0]);
        return time == null ? NONE : edgeTimes.headSet(time).size();
    }

    private int closes(int g) {
        Integer time = edgeTimes.ceiling(gateList.get(g)[1]);
        int at = time == null ? NONE : edgeTimes.headSet(time).size();
        return at == opens(g) ? NONE : at;
    }

    private int periods(int from, int to) {
        List<Integer> places = places();
        return places.get(to) - places.get(from);
    }

    int where(int g, int what) {
        if (out(g, 0, gateList.size() - 1) || out(what, 0, 2)) return BAD;
        if (what == 0) return opens(g);
        if (what == 1 || closes(g) == NONE) return closes(g);
        return periods(opens(g), closes(g));
    }

    long frequency(int g, int of, int what) {
        if (out(g, 0, gateList.size() - 1) || out(of, 0, 3) || out(what, 0, 1)) return far(BAD);
        if (closes(g) == NONE) return far(NOT);
        int here = times().get(opens(g));
        int there = times().get(closes(g));
        Fraction below;
        switch (of) {
            case 0: below = stampOf(there).less(stampOf(here)); break;
            case 1: below = Fraction.of(bound(there, true) - bound(here, false)); break;
            case 2: below = Fraction.of(bound(there, false) - bound(here, true)); break;
            default: below = Fraction.of(there - here); break;
        }
        if (below.compareTo(Fraction.ZERO) <= 0) return far(NOT);
        return Fraction.of(periods(opens(g), closes(g))).by(below).told(what);
    }

    int closing(int k) {
        if (out(k, 0, gateList.size() - 1)) return BAD;
        List<Integer> order = new ArrayList<>();
        List<Integer> never = new ArrayList<>();
        for (int g = 0; g < gateList.size(); g++) (closes(g) == NONE ? never : order).add(g);
        order.sort(Comparator.comparingInt(this::closes).thenComparingInt(this::opens));
        order.addAll(never);
        return order.get(k);
    }

    int chain(int g, int k, int what) {
        if (out(g, 1, 99) || out(what, 0, 4)) return BAD;
        List<int[]> links = new ArrayList<>();
        List<Integer> times = times();
        int open = 0;
        boolean more = true;
        while (more) {
            more = false;
            for (int i = open + 1; i < times.size() && !more; i++) {
                if (times.get(i) / 60 >= times.get(open) / 60 + g) {
                    links.add(new int[] {open, i, periods(open, i)});
                    open = i;
                    more = true;
                }
            }
        }
        if (what == 3) return links.size();
        if (what == 4) return links.stream().mapToInt(link -> link[2]).sum();
        return out(k, 0, links.size() - 1) ? BAD : links.get(k)[what];
    }

    // ---- all edges

    private Fraction meanPlace(int i, int j) {
        int sum = 0;
        for (int place : places().subList(i, j + 1)) sum += place;
        return Fraction.of(sum, j - i + 1);
    }

    private Fraction meanStamp(int i, int j) {
        Fraction sum = Fraction.ZERO;
        for (Fraction stamp : stamps().subList(i, j + 1)) sum = sum.plus(stamp);
        return sum.by(Fraction.of(j - i + 1));
    }

    /** The slope by deviations from the means: the same as the document's, by another way. */
    private Fraction slope(int i, int j) {
        Fraction meanPlace = meanPlace(i, j);
        Fraction meanStamp = meanStamp(i, j);
        List<Integer> places = places();
        List<Fraction> stamps = stamps();
        Fraction above = Fraction.ZERO;
        Fraction below = Fraction.ZERO;
        for (int k = i; k <= j; k++) {
            Fraction away = Fraction.of(places.get(k)).less(meanPlace);
            above = above.plus(away.times(stamps.get(k).less(meanStamp)));
            below = below.plus(away.times(away));
        }
        return above.by(below);
    }

    long fit(int i, int j, int what) {
        if (i < 0 || j >= edgeTimes.size() || i >= j || out(what, 0, 1)) return far(BAD);
        return slope(i, j).told(what);
    }

    int off(int i, int j) {
        if (i < 0 || j >= edgeTimes.size() || i >= j) return BAD;
        Fraction slope = slope(i, j);
        Fraction meanPlace = meanPlace(i, j);
        Fraction meanStamp = meanStamp(i, j);
        List<Integer> places = places();
        List<Fraction> stamps = stamps();
        int best = i;
        Fraction most = Fraction.of(-1);
        for (int k = i; k <= j; k++) {
            Fraction line = meanStamp.plus(slope.times(Fraction.of(places.get(k)).less(meanPlace)));
            Fraction away = stamps.get(k).less(line).size();
            if (away.compareTo(most) > 0) {
                most = away;
                best = k;
            }
        }
        return best;
    }

    long gain(int m, int what) {
        if (out(m, 3, 32) || out(what, 0, 1)) return far(BAD);
        long places = 0;
        long squares = 0;
        for (int k = 0; k < m; k++) {
            places += k;
            squares += k * k;
        }
        Fraction byFit = Fraction.ZERO;
        for (int k = 0; k < m; k++) {
            Fraction weight = Fraction.of(m * k - places, m * squares - places * places);
            byFit = byFit.plus(weight.times(weight));
        }
        Fraction end = Fraction.of(1, m - 1);
        return end.times(end).plus(end.times(end)).by(byFit).told(what);
    }

    private Fraction varianceOf(int m) {
        List<Fraction> stamps = stamps();
        Fraction sum = Fraction.ZERO;
        int many = 0;
        for (int i = 0; i + 2 * m < stamps.size(); i++) {
            Fraction bend = stamps.get(i + 2 * m).less(stamps.get(i + m)).less(stamps.get(i + m).less(stamps.get(i)));
            sum = sum.plus(bend.times(bend));
            many++;
        }
        return many == 0 ? null : sum.by(Fraction.of(2L * m * m * many));
    }

    long variance(int m, int what) {
        if (out(m, 1, 15) || out(what, 0, 1)) return far(BAD);
        Fraction variance = varianceOf(m);
        return variance == null ? far(NOT) : variance.told(what);
    }

    private List<Integer> ranks() {
        List<Integer> all = new ArrayList<>();
        Fraction[] variances = new Fraction[16];
        for (int m = 1; m <= 15; m++) {
            variances[m] = varianceOf(m);
            if (variances[m] != null) all.add(m);
        }
        all.sort(Comparator.comparing((Integer m) -> variances[m]));
        return all;
    }

    int rank(int k) {
        List<Integer> ranks = ranks();
        return out(k, 0, ranks.size() - 1) ? BAD : ranks.get(k);
    }

    // ---- sheets: rows are arrays as Java has them, NaN and all

    private static int form(Object row) {
        return row instanceof int[] ? 0 : row instanceof long[] ? 1 : row instanceof float[] ? 2 : 3;
    }

    private static int size(Object row) {
        return java.lang.reflect.Array.getLength(row);
    }

    int sheet(int s, int form, int n) {
        if (out(s, 0, 3) || out(form, 0, 3) || n > 40) return BAD;
        if (n < 0) return find(5);
        switch (form) {
            case 0: rows[s] = new int[n]; break;
            case 1: rows[s] = new long[n]; break;
            case 2: rows[s] = new float[n]; break;
            default: rows[s] = new double[n]; break;
        }
        return n;
    }

    int lose(int s) {
        if (out(s, 0, 3)) return BAD;
        if (rows[s] == null) return find(1);
        int had = size(rows[s]);
        rows[s] = null;
        return had;
    }

    int put(int s, int form, int i, int v) {
        if (out(s, 0, 3) || out(form, 0, 3)) return BAD;
        if (rows[s] == null) return find(1);
        if (form(rows[s]) != form) return find(3);
        if (out(i, 0, size(rows[s]) - 1)) return find(2);
        switch (form) {
            case 0: ((int[]) rows[s])[i] = v; break;
            case 1: ((long[]) rows[s])[i] = 100000007L * v; break;
            case 2: ((float[]) rows[s])[i] = v / 8f; break;
            default: ((double[]) rows[s])[i] = v / 8d; break;
        }
        return 1;
    }

    int blank(int s, int i) {
        if (out(s, 0, 3)) return BAD;
        if (rows[s] == null) return find(1);
        if (form(rows[s]) < 2) return find(3);
        if (out(i, 0, size(rows[s]) - 1)) return find(2);
        if (rows[s] instanceof float[]) ((float[]) rows[s])[i] = Float.NaN;
        else ((double[]) rows[s])[i] = Double.NaN;
        return 1;
    }

    private static double real(Object row, int i) {
        return row instanceof float[] ? ((float[]) row)[i] : ((double[]) row)[i];
    }

    long get(int s, int i) {
        if (out(s, 0, 3)) return far(BAD);
        if (rows[s] == null) return far(find(1));
        if (out(i, 0, size(rows[s]) - 1)) return far(find(2));
        if (rows[s] instanceof int[]) return ((int[]) rows[s])[i];
        if (rows[s] instanceof long[]) return ((long[]) rows[s])[i];
        double d = real(rows[s], i);
        return Double.isNaN(d) ? far(NONE) : (long) (8.0 * d);
    }

    int copy(int s, int i, int t, int j, int n) {
        if (out(s, 0, 3) || out(t, 0, 3)) return BAD;
        if (rows[s] == null || rows[t] == null) return find(1);
        if (form(rows[s]) != form(rows[t])) return find(4);
        boolean there = i >= 0 && j >= 0 && n >= 0
            && (long) i + n <= size(rows[s]) && (long) j + n <= size(rows[t]);
        if (!there) return find(2);
        System.arraycopy(rows[s], i, rows[t], j, n);
        return 1;
    }

    int write(int s) {
        if (out(s, 0, 3)) return BAD;
        if (rows[s] == null) return find(1);
        if (form(rows[s]) != 3) return find(3);
        double[] row = (double[]) rows[s];
        int numbers = 0;
        for (int m = 1; m <= Math.min(15, row.length); m++) {
            Fraction variance = varianceOf(m);
            row[m - 1] = variance == null ? Double.NaN : (double) variance.told(0) / (double) variance.told(1);
            numbers += variance == null ? 0 : 1;
        }
        return numbers;
    }

    int found(int s, int what) {
        if (out(s, 0, 3) || out(what, 0, 2)) return BAD;
        if (rows[s] == null) return find(1);
        if (form(rows[s]) < 2) return find(3);
        int none = 0;
        int best = NONE;
        for (int i = 0; i < size(rows[s]); i++) {
            double d = real(rows[s], i);
            if (Double.isNaN(d)) {
                none++;
            } else if (best == NONE || (what == 0 ? d < real(rows[s], best) : d > real(rows[s], best))) {
                best = i;
            }
        }
        return what == 2 ? none : best;
    }

    int count(int what) {
        if (out(what, 0, 8)) return BAD;
        switch (what) {
            case 0: return edgeTimes.size();
            case 1: return bins();
            case 2: return allHits();
            case 3: return gateList.size();
            case 4: return (int) missing().stream().mapToLong(n -> Math.min(9, n)).sum();
            case 5: return (int) missing().stream().filter(n -> n > 9).count();
            case 6: return ranks().size();
            case 7: return text.length();
            default: return latest;
        }
    }

    long digest() {
        List<Long> all = new ArrayList<>();
        for (int what = 0; what <= 7; what++) all.add((long) count(what));
        all.add((long) mode());
        for (int b = 0; b < bins(); b++) {
            for (int what = 0; what <= 2; what++) all.add((long) bin(b, what));
            for (int what = 0; what <= 1; what++) all.add(dense(b, what));
        }
        all.add((long) worst());
        for (int i = 0; i < edgeTimes.size(); i++) {
            for (int what = 0; what <= 7; what++) all.add((long) seen(i, what));
            for (int what = 0; what <= 1; what++) all.add(stamp(i, what));
        }
        for (int what = 0; what <= 1; what++) all.add(reference(what));
        for (int g = 0; g < gateList.size(); g++) {
            for (int what = 0; what <= 2; what++) all.add((long) where(g, what));
            for (int of = 0; of <= 3; of++) {
                for (int what = 0; what <= 1; what++) all.add(frequency(g, of, what));
            }
            all.add((long) closing(g));
        }
        for (int what = 3; what <= 4; what++) all.add((long) chain(3, 0, what));
        for (int what = 0; what <= 4; what++) all.add((long) chain(7, 1, what));
        if (edgeTimes.size() >= 2) {
            for (int what = 0; what <= 1; what++) all.add(fit(0, edgeTimes.size() - 1, what));
            all.add((long) off(0, edgeTimes.size() - 1));
        }
        for (int what = 0; what <= 1; what++) all.add(gain(5, what));
        for (int m = 1; m <= 15; m++) {
            for (int what = 0; what <= 1; what++) all.add(variance(m, what));
        }
        for (int k = 0; k < count(6); k++) all.add((long) rank(k));
        long h = 17;
        for (long answer : all) h = 31 * h + answer;
        return h;
    }
}
