import java.util.ArrayList;
import java.util.List;

/**
 * The document in its plainest form, as slow as may be: histories are told one by one, rows tried in every
 * order, kinds are classes and sheets the host's own arrays. It shares no way of working with VaseCourt.
 */
final class Model {
    static final int MOST_HISTORIES = 4000;
    private static final long NO = -4611686018427387904L;

    static class Photo {
        int kind, a, b, p, leans;
        boolean forged;

        boolean allows(int land, int period) {
            return period != p || land == a;
        }
    }

    static class Letter extends Photo {
        @Override boolean allows(int land, int period) {
            return super.allows(land, period) && (period != p + 1 || land == a || land == b);
        }
    }

    static class Stamp extends Photo {
        @Override boolean allows(int land, int period) {
            return super.allows(land, period) && !(period < p && land == a);
        }
    }

    static final class Deed extends Letter {
        @Override boolean allows(int land, int period) {
            return super.allows(land, period) && !(period < p && land == b);
        }
    }

    static final class Seal extends Stamp {
        @Override boolean allows(int land, int period) {
            return super.allows(land, period) && !((period == p + 1 || period == p + 2) && land != a);
        }
    }

    static final class Rumour extends Photo {
        @Override boolean allows(int land, int period) {
            return period == p ? land != a : super.allows(land, period);
        }
    }

    private static final Class<?>[] KINDS =
            {Photo.class, Letter.class, Stamp.class, Deed.class, Seal.class, Rumour.class};

    private final int t;
    private final List<int[]> ways = new ArrayList<>();
    private int soil = 31;
    private final List<Photo> papers = new ArrayList<>();
    private final StringBuilder tape = new StringBuilder();
    private final List<TextModel> texts = new ArrayList<>();
    private final List<int[]> laws = new ArrayList<>();
    private final List<long[]> judgements = new ArrayList<>();
    private final List<int[]> sherds = new ArrayList<>();
    private final List<int[]> records = new ArrayList<>();
    private int slack = 0;
    private int enough = 3;
    private final Object[] sheets = new Object[4];
    private List<int[]> told;
    private boolean tooMany;

    Model(int periods) {
        int left = periods % 11;
        if (left < 0) left += 11;
        t = 2 + left;
        texts.add(TextModel.read("hold open ; limit 5 ;"));
    }

    // ---- helpers

    private static boolean land(int land) {
        return land >= 0 && land <= 4;
    }

    private boolean period(int period) {
        return period >= 0 && period <= t - 1;
    }

    private boolean stands(int paper) {
        Photo x = papers.get(paper);
        if (x.forged) return false;
        for (int k = 0; k < papers.size(); k++) {
            if ((x.leans & 1 << k) != 0 && !stands(k)) return false;
        }
        return true;
    }

    private int standing() {
        int n = 0;
        for (int k = 0; k < papers.size(); k++) if (stands(k)) n++;
        return n;
    }

    private int open(int a, int b, int period) {
        int n = 0;
        for (int[] w : ways) if (w[0] == a && w[1] == b && w[2] <= period && period <= w[3]) n++;
        return n;
    }

    /** Whether there are so many histories that the model does not tell them. */
    boolean isTooMany() {
        all();
        return tooMany;
    }

    private void forget() {
        told = null;
    }

    private List<int[]> all() {
        if (told != null) return told;
        told = new ArrayList<>();
        tooMany = false;
        boolean[][] allowed = new boolean[5][t];
        for (int a = 0; a < 5; a++) {
            for (int p = 0; p < t; p++) {
                allowed[a][p] = true;
                for (int k = 0; k < papers.size(); k++) {
                    if (stands(k) && !papers.get(k).allows(a, p)) allowed[a][p] = false;
                }
            }
        }
        boolean[][] dead = new boolean[5][t];
        for (int p = t - 1; p >= 0; p--) {
            for (int a = 0; a < 5; a++) {
                dead[a][p] = true;
                if (!allowed[a][p]) continue;
                if (p == t - 1) dead[a][p] = false;
                for (int b = 0; b < 5 && p < t - 1; b++) {
                    if (!dead[b][p + 1] && (a == b || open(a, b, p) > 0)) dead[a][p] = false;
                }
            }
        }
        tell(new int[t], 0, dead);
        return told;
    }

    private void tell(int[] row, int p, boolean[][] dead) {
        if (tooMany) return;
        if (p == t) {
            if (told.size() == MOST_HISTORIES) tooMany = true;
            else told.add(row.clone());
            return;
        }
        for (int b = 0; b < 5; b++) {
            if (dead[b][p]) continue;
            if (p == 0 ? (soil & 1 << b) == 0 : row[p - 1] != b && open(row[p - 1], b, p - 1) == 0) continue;
            row[p] = b;
            tell(row, p + 1, dead);
        }
    }

    private boolean bad(int[] h, int p) {
        int from = h[p];
        int to = h[p + 1];
        if (from == to) return false;
        return says(from, to, p, 0) == 0 && !(t - 1 - p > says(from, to, p, 1));
    }

    private long[] givenAll() {
        long[] given = new long[5];
        for (int[] h : all()) {
            int to = h[t - 1];
            for (int p = t - 2; p >= 0; p--) if (bad(h, p)) to = h[p];
            given[to]++;
        }
        return given;
    }

    private static List<int[]> part(List<int[]> from, int land, int period, boolean yes) {
        List<int[]> part = new ArrayList<>();
        for (int[] h : from) if (h[period] == land == yes) part.add(h);
        return part;
    }

    private long leastWorst(List<int[]> among) {
        int[][] there = new int[t][5];
        for (int[] h : among) for (int p = 0; p < t; p++) there[p][h[p]]++;
        long least = among.size();
        for (int p = 0; p < t; p++) {
            for (int a = 0; a < 5; a++) {
                least = Math.min(least, Math.max(there[p][a], among.size() - there[p][a]));
            }
        }
        return least;
    }

    // ---- calls

    long way(int a, int b, int from, int to) {
        if (!land(a) || !land(b) || a == b || from < 0 || from > t - 2 || to < from || to > t - 2) return -2;
        if (ways.size() == 20) return -4;
        ways.add(new int[] {a, b, from, to});
        forget();
        return ways.size() - 1;
    }

    long soil(int lands) {
        if (lands < 0 || lands > 31) return -2;
        int was = soil;
        soil = lands;
        forget();
        return was;
    }

    long paper(int kind, int a, int b, int period, int leans) {
        if (kind < 0 || kind > 5 || !land(a) || !land(b) || !period(period)) return -2;
        for (int k = 0; k < 32; k++) if (leans >>> k << 31 != 0 && k >= papers.size()) return -2;
        if (papers.size() == 16) return -4;
        Photo x = switch (kind) {
            case 0 -> new Photo();
            case 1 -> new Letter();
            case 2 -> new Stamp();
            case 3 -> new Deed();
            case 4 -> new Seal();
            default -> new Rumour();
        };
        x.kind = kind;
        x.a = a;
        x.b = b;
        x.p = period;
        x.leans = leans;
        papers.add(x);
        forget();
        return papers.size() - 1;
    }

    private boolean isPaper(int paper) {
        return paper >= 0 && paper < papers.size();
    }

    long paperTold(int paper, int what) {
        if (!isPaper(paper) || what < 0 || what > 6) return -2;
        Photo x = papers.get(paper);
        int[] told = {x.kind, x.a, x.b, x.p, x.leans, x.forged ? 1 : 0, stands(paper) ? 1 : 0};
        return told[what];
    }

    long allows(int paper, int land, int period) {
        if (!isPaper(paper) || !land(land) || !period(period)) return -2;
        return papers.get(paper).allows(land, period) ? 1 : 0;
    }

    long forge(int paper, int is) {
        if (!isPaper(paper) || is != 0 && is != 1) return -2;
        papers.get(paper).forged = is == 1;
        forget();
        return standing();
    }

    long fall(int paper) {
        if (!isPaper(paper)) return -2;
        int bits = 0;
        for (int k = 0; k < papers.size(); k++) if (stands(k)) bits |= 1 << k;
        boolean was = papers.get(paper).forged;
        papers.get(paper).forged = true;
        for (int k = 0; k < papers.size(); k++) if (stands(k)) bits &= ~(1 << k);
        papers.get(paper).forged = was;
        return bits;
    }

    long histories() {
        return all().size();
    }

    long at(int land, int period) {
        if (!land(land) || !period(period)) return NO;
        return part(all(), land, period, true).size();
    }

    long both(int land, int period, int other, int second) {
        if (!land(land) || !period(period) || !land(other) || !period(second)) return NO;
        return part(part(all(), land, period, true), other, second, true).size();
    }

    long history(int i, int period) {
        if (i < 0 || i > 9999 || !period(period)) return -2;
        return i < all().size() ? all().get(i)[period] : -1;
    }

    long feed(int n, long bytes) {
        if (n < 1 || n > 8) return -2;
        if (tape.length() + n > 160) return -4;
        for (int k = 0; k < n; k++) {
            tape.append((char) (bytes & 255));
            bytes >>>= 8;
        }
        return tape.length();
    }

    long text() {
        if (texts.size() == 6) return -4;
        TextModel x = TextModel.read(tape.toString());
        tape.setLength(0);
        if (x.fault >= 0) return -100 - x.fault;
        texts.add(x);
        return texts.size() - 1;
    }

    long law(int land, int from, int text) {
        if (!land(land) || !period(from) || text < 0 || text >= texts.size()) return -2;
        if (laws.size() == 20) return -4;
        laws.add(new int[] {land, from, text});
        return laws.size() - 1;
    }

    long lawOf(int land, int period) {
        if (!land(land) || !period(period)) return -2;
        for (int first = period; first >= 0; first--) {
            for (int k = laws.size() - 1; k >= 0; k--) {
                if (laws.get(k)[0] == land && laws.get(k)[1] == first) return laws.get(k)[2];
            }
        }
        return 0;
    }

    long says(int from, int to, int period, int part) {
        if (!land(from) || !land(to) || from == to || period < 0 || period > t - 2 || part < 0 || part > 1) return NO;
        int[] names = {from, to, period, t - 1, standing(), open(from, to, period)};
        return texts.get((int) lawOf(from, period)).value(part, names);
    }

    long given(int land) {
        return land(land) ? givenAll()[land] : NO;
    }

    long claim(int land) {
        if (!land(land)) return NO;
        long n = 0;
        for (int[] h : all()) {
            boolean stands = false;
            for (int p = 0; p < t - 1; p++) if (h[p] == land && bad(h, p)) stands = true;
            if (stands) n++;
        }
        return n;
    }

    long judge() {
        if (judgements.size() == 12) return -4;
        judgements.add(givenAll());
        return judgements.size() - 1;
    }

    long judged(int judgement, int land) {
        if (judgement < 0 || judgement >= judgements.size() || !land(land)) return NO;
        return judgements.get(judgement)[land];
    }

    long changed(int judgement) {
        if (judgement < 0 || judgement >= judgements.size()) return -2;
        long[] now = givenAll();
        int bits = 0;
        for (int a = 0; a < 5; a++) if (now[a] != judgements.get(judgement)[a]) bits += 1 << a;
        return bits;
    }

    long worst(int land, int period) {
        if (!land(land) || !period(period)) return NO;
        return Math.max(part(all(), land, period, true).size(), part(all(), land, period, false).size());
    }

    long question() {
        long best = -1;
        for (int p = t - 1; p >= 0; p--) {
            for (int a = 4; a >= 0; a--) {
                if (worst(a, p) >= all().size()) continue;
                if (best < 0 || worst(a, p) <= worst((int) best % 10, (int) best / 10)) best = 10 * p + a;
            }
        }
        return best;
    }

    long worstOfTwo(int land, int period) {
        if (!land(land) || !period(period)) return NO;
        return Math.max(leastWorst(part(all(), land, period, true)), leastWorst(part(all(), land, period, false)));
    }

    long firstOfTwo() {
        long best = -1;
        long least = all().size();
        for (int p = 0; p < t; p++) {
            for (int a = 0; a < 5; a++) {
                long w = worstOfTwo(a, p);
                if (w >= least) continue;
                least = w;
                best = 10 * p + a;
            }
        }
        return best;
    }

    long sherd(int left, int right) {
        if (left < 0 || left > 9999 || right < 0 || right > 9999) return -2;
        if (sherds.size() == 8) return -4;
        sherds.add(new int[] {left, right});
        return sherds.size() - 1;
    }

    long set(int what, int n) {
        if (what == 0 && n >= 0 && n <= 4) {
            int was = slack;
            slack = n;
            return was;
        }
        if (what == 1 && n >= 1 && n <= 10) {
            int was = enough;
            enough = n;
            return was;
        }
        return -2;
    }

    private boolean isSherd(int sherd) {
        return sherd >= 0 && sherd < sherds.size();
    }

    long joined(int a, int b) {
        if (!isSherd(a) || !isSherd(b) || a == b) return -2;
        String right = String.format("%04d", sherds.get(a)[1]);
        String left = String.format("%04d", sherds.get(b)[0]);
        int unlike = 0;
        for (int k = 0; k < 4; k++) if (right.charAt(k) - '0' + left.charAt(k) - '0' != 9) unlike++;
        return unlike <= slack ? 1 : 0;
    }

    private List<Integer> longest;

    private void tryRows(List<Integer> row, boolean[][] joins) {
        if (row.size() > longest.size()) longest = new ArrayList<>(row);
        for (int next = 0; next < sherds.size(); next++) {
            if (row.contains(next) || !row.isEmpty() && !joins[row.get(row.size() - 1)][next]) continue;
            row.add(next);
            tryRows(row, joins);
            row.remove(row.size() - 1);
        }
    }

    long row(int i) {
        boolean[][] joins = new boolean[8][8];
        for (int a = 0; a < 8; a++) for (int b = 0; b < 8; b++) joins[a][b] = joined(a, b) == 1;
        longest = new ArrayList<>();
        // Rows are tried from the least on, so the first of a length is the least one.
        tryRows(new ArrayList<>(), joins);
        if (i == -1) return longest.size();
        return i >= 0 && i < longest.size() ? longest.get(i) : -1;
    }

    long record(int marks, int known) {
        if (marks < 0 || marks > 1023 || known < 0 || known > 1023) return -2;
        if (records.size() == 10) return -4;
        records.add(new int[] {marks, known});
        return records.size() - 1;
    }

    private boolean odds(int a, int b) {
        for (int k = 0; k < 10; k++) {
            int bit = 1 << k;
            boolean known = (records.get(a)[1] & bit) != 0 && (records.get(b)[1] & bit) != 0;
            if (known && (records.get(a)[0] & bit) != (records.get(b)[0] & bit)) return true;
        }
        return false;
    }

    private boolean match(int a, int b) {
        int n = 0;
        for (int k = 0; k < 10; k++) {
            if ((records.get(a)[1] >> k & 1) + (records.get(b)[1] >> k & 1) == 2) n++;
        }
        return n >= enough && !odds(a, b);
    }

    private boolean[][] oneThing() {
        int n = records.size();
        boolean[][] one = new boolean[n][n];
        for (int a = 0; a < n; a++) for (int b = 0; b < n; b++) one[a][b] = a == b || match(a, b);
        for (int m = 0; m < n; m++) {
            for (int a = 0; a < n; a++) {
                for (int b = 0; b < n; b++) one[a][b] |= one[a][m] && one[m][b];
            }
        }
        return one;
    }

    long same(int a, int b, int what) {
        int n = records.size();
        if (a < 0 || a >= n || b < 0 || b >= n || what < 0 || what > 2) return -2;
        boolean is = what == 0 ? match(a, b) : what == 1 ? odds(a, b) : oneThing()[a][b];
        return is ? 1 : 0;
    }

    long things(int i) {
        if (i != -1 && i != -2) return -2;
        boolean[][] one = oneThing();
        int n = 0;
        for (int a = 0; a < records.size(); a++) {
            boolean first = true;
            for (int b = 0; b < a; b++) if (one[a][b]) first = false;
            if (!first) continue;
            boolean copy = false;
            for (int b = 0; b < records.size(); b++) {
                for (int c = 0; c < records.size(); c++) if (one[a][b] && one[a][c] && odds(b, c)) copy = true;
            }
            if (i == -1 || copy) n++;
        }
        return n;
    }

    long count(int what) {
        int[] counts = {t, ways.size(), papers.size(), standing(), laws.size(), judgements.size(), sherds.size(),
            records.size(), texts.size(), tape.length(), soil};
        return what >= 0 && what < counts.length ? counts[what] : -2;
    }

    private static boolean isSheet(int sheet) {
        return sheet >= 0 && sheet <= 3;
    }

    long sheet(int sheet, int sort, int n) {
        if (!isSheet(sheet) || sort < -1 || sort > 2 || sort != -1 && n > 40) return -2;
        try {
            sheets[sheet] = sort == -1 ? null : sort == 0 ? new byte[n] : sort == 1 ? new short[n] : (Object) new int[n];
            return 1;
        } catch (NegativeArraySizeException e) {
            return -14;
        }
    }

    long cell(int sheet, int i, int v) {
        if (!isSheet(sheet)) return -2;
        try {
            if (sheets[sheet] instanceof byte[] row) row[i] = (byte) v;
            else if (sheets[sheet] instanceof short[] row) row[i] = (short) v;
            else ((int[]) sheets[sheet])[i] = v;
            return 1;
        } catch (NullPointerException e) {
            return -11;
        } catch (ArrayIndexOutOfBoundsException e) {
            return -12;
        }
    }

    long copy(int sheet, int i, int other, int j, int n) {
        if (!isSheet(sheet) || !isSheet(other)) return -2;
        try {
            System.arraycopy(sheets[sheet], i, sheets[other], j, n);
            return n;
        } catch (NullPointerException e) {
            return -11;
        } catch (ArrayStoreException e) {
            return -13;
        } catch (ArrayIndexOutOfBoundsException e) {
            return -12;
        }
    }

    private static int item(Object row, int sort, int i) {
        return sort == 0 ? ((byte[]) row)[i] : sort == 1 ? ((short[]) row)[i] : ((int[]) row)[i];
    }

    long papers(int sheet, int sort, int from, int n) {
        if (!isSheet(sheet) || sort < 0 || sort > 2 || n < 0 || n > 8) return -2;
        Object row = sheets[sheet];
        Class<?>[] sorts = {byte[].class, short[].class, int[].class};
        if (row != null && row.getClass() != sorts[sort]) return -13;
        if (row == null) return -11;
        int came = 0;
        try {
            for (int k = 0; k < n; k++) {
                int[] x = new int[5];
                for (int m = 0; m < 5; m++) x[m] = item(row, sort, from + 5 * k + m);
                if (paper(x[0], x[1], x[2], x[3], x[4]) >= 0) came++;
            }
            return came;
        } catch (ArrayIndexOutOfBoundsException e) {
            return -12;
        }
    }

    long taken(int paper, int k) {
        if (k < 0 || k > 5) return -2;
        if (!isPaper(paper)) return -11;
        return KINDS[k].isInstance(papers.get(paper)) ? papers.get(paper).a : -13;
    }
}
