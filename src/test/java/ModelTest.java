import java.util.Random;

/** Runs of calls, ordinary and wrong ones, on VaseCourt and on the model; all answers must be alike. */
public final class ModelTest {
    private static final int RUNS = 1500, CALLS = 512, TEXT_RUNS = 60000;
    private static final int[] EXTREMES = {Integer.MIN_VALUE, Integer.MAX_VALUE, -1, -2, 1 << 30, 99};
    private static final Due DUE = new Due();

    private final Random dice;
    private final VaseCourt x;
    private final Model m;
    private final int t;
    private final int run;
    private final int fewWays;

    private ModelTest(int run) {
        this.run = run;
        dice = new Random(run);
        int periods = dice.nextInt(8) == 0 ? dice.nextInt() : dice.nextInt(11);
        x = new VaseCourt(periods);
        m = new Model(periods);
        t = (int) m.count(0);
        fewWays = dice.nextInt(3);
    }

    public static void main(String[] args) {
        for (int run = 0; run < RUNS; run++) new ModelTest(run).go();
        for (int run = 0; run < TEXT_RUNS; run++) checkText(new Random(run), run);
        DUE.end();
    }

    private void go() {
        int calls = dice.nextInt(4) == 0 ? CALLS : 30 + dice.nextInt(100);
        for (int k = 0; k < calls; k++) step();
    }

    /** Mostly 0 .. n - 1, at times one beside it or far away. */
    private int upTo(int n) {
        int luck = dice.nextInt(60);
        if (luck == 0) return -1;
        if (luck == 1) return n;
        if (luck == 2) return EXTREMES[dice.nextInt(EXTREMES.length)];
        return n <= 0 ? 0 : dice.nextInt(n);
    }

    private int one(int what) {
        return upTo((int) m.count(what));
    }

    private void same(String call, long got, long want) {
        DUE.is("run " + run + ": " + call, got, want);
    }

    private void step() {
        switch (dice.nextInt(7)) {
            case 0 -> tell();
            case 1 -> tellPapers();
            case 2 -> askPapers();
            case 3 -> askHistories();
            case 4 -> laws();
            case 5 -> sherdsAndRecords();
            default -> host();
        }
    }

    private void tell() {
        int what = dice.nextInt(10);
        if (what < 3 && dice.nextInt(3) >= fewWays) {
            int a = upTo(5), b = upTo(5), from = upTo(t - 1), to = dice.nextInt(3) == 0 ? upTo(t) : from;
            same("way " + a + " " + b + " " + from + " " + to, x.way(a, b, from, to), m.way(a, b, from, to));
        } else if (what == 3) {
            int lands = dice.nextInt(3) == 0 ? upTo(32) : 31;
            same("soil " + lands, x.soil(lands), m.soil(lands));
        } else {
            int n = upTo(11);
            same("count " + n, x.count(n), m.count(n));
        }
    }

    private void tellPapers() {
        if (dice.nextInt(3) != 0) {
            int p = one(2), is = dice.nextInt(3) == 0 ? upTo(2) : 1;
            same("forge " + p + " " + is, x.forge(p, is), m.forge(p, is));
            return;
        }
        int kind = upTo(6), a = upTo(5), b = upTo(5), p = upTo(t);
        int room = 1 << (int) m.count(2);
        int leans = dice.nextInt(10) == 0 ? dice.nextInt() : upTo(room) & upTo(room) & upTo(room);
        same("paper " + kind + " " + a + " " + b + " " + p + " " + leans, x.paper(kind, a, b, p, leans),
                m.paper(kind, a, b, p, leans));
    }

    private void askPapers() {
        int p = one(2);
        switch (dice.nextInt(4)) {
            case 0 -> {
                int what = upTo(7);
                same("paperTold " + p + " " + what, x.paperTold(p, what), m.paperTold(p, what));
            }
            case 1 -> {
                int land = upTo(5), period = upTo(t);
                same("allows " + p + " " + land + " " + period, x.allows(p, land, period), m.allows(p, land, period));
            }
            case 2 -> same("fall " + p, x.fall(p), m.fall(p));
            default -> {
                int k = upTo(6);
                same("taken " + p + " " + k, x.taken(p, k), m.taken(p, k));
            }
        }
    }

    private void askHistories() {
        if (m.isTooMany()) return;
        int a = upTo(5), p = upTo(t), b = upTo(5), q = upTo(t);
        switch (dice.nextInt(9)) {
            case 0 -> same("histories", x.histories(), m.histories());
            case 1 -> same("at " + a + " " + p, x.at(a, p), m.at(a, p));
            case 2 -> same("both " + a + " " + p + " " + b + " " + q, x.both(a, p, b, q), m.both(a, p, b, q));
            case 3 -> {
                int i = dice.nextInt(10) == 0 ? 9998 + dice.nextInt(4) : upTo((int) m.histories());
                same("history " + i + " " + p, x.history(i, p), m.history(i, p));
            }
            case 4 -> same("worst " + a + " " + p, x.worst(a, p), m.worst(a, p));
            case 5 -> same("question", x.question(), m.question());
            case 6 -> same("worstOfTwo " + a + " " + p, x.worstOfTwo(a, p), m.worstOfTwo(a, p));
            case 7 -> {
                if (m.histories() < 300 || dice.nextInt(5) == 0) same("firstOfTwo", x.firstOfTwo(), m.firstOfTwo());
            }
            default -> {
                int land = upTo(5);
                same("given " + land, x.given(land), m.given(land));
                same("claim " + land, x.claim(land), m.claim(land));
            }
        }
    }

    private void laws() {
        int a = upTo(5), b = upTo(5), p = upTo(t), part = upTo(2);
        int judgement = one(5);
        switch (dice.nextInt(8)) {
            case 0 -> feedText(randomText(dice));
            case 1 -> {
                int text = one(8);
                same("law " + a + " " + p + " " + text, x.law(a, p, text), m.law(a, p, text));
            }
            case 2 -> same("lawOf " + a + " " + p, x.lawOf(a, p), m.lawOf(a, p));
            case 3 -> same("says " + a + " " + b + " " + p + " " + part, x.says(a, b, p, part), m.says(a, b, p, part));
            case 4 -> {
                if (!m.isTooMany()) same("given " + a, x.given(a), m.given(a));
            }
            case 5 -> {
                if (!m.isTooMany() && dice.nextInt(3) == 0) same("judge", x.judge(), m.judge());
            }
            case 6 -> same("judged " + judgement + " " + a, x.judged(judgement, a), m.judged(judgement, a));
            default -> {
                if (!m.isTooMany()) same("changed " + judgement, x.changed(judgement), m.changed(judgement));
            }
        }
    }

    private void feedText(String text) {
        int n = dice.nextInt(20) == 0 ? upTo(9) : 8;
        for (int at = 0; at < text.length();) {
            long bytes = 0;
            for (int k = 7; k >= 0; k--) bytes = bytes << 8 | (at + k < text.length() ? text.charAt(at + k) : dice.nextInt(256));
            int size = n >= 1 && n <= 8 ? Math.min(n, text.length() - at) : n;
            same("feed " + size + " " + bytes, x.feed(size, bytes), m.feed(size, bytes));
            if (size < 1 || size > 8) return;
            at += size;
        }
        if (dice.nextInt(15) != 0) same("text of " + text, x.text(), m.text());
    }

    private int edge() {
        return dice.nextInt(20) == 0 ? upTo(10000) : 1111 * (3 + dice.nextInt(4)) + dice.nextInt(2);
    }

    private void sherdsAndRecords() {
        int s = one(6), other = one(6), r = one(7), second = one(7);
        switch (dice.nextInt(8)) {
            case 0 -> {
                int left = edge(), right = edge();
                if (dice.nextInt(3) == 0) same("sherd " + left + " " + right, x.sherd(left, right), m.sherd(left, right));
            }
            case 1 -> {
                int what = upTo(2), n = dice.nextInt(3) == 0 ? upTo(11) : upTo(3);
                same("set " + what + " " + n, x.set(what, n), m.set(what, n));
            }
            case 2 -> same("joined " + s + " " + other, x.joined(s, other), m.joined(s, other));
            case 3, 4 -> {
                int i = upTo(9) - 1;
                same("row " + i, x.row(i), m.row(i));
            }
            case 5 -> {
                int marks = upTo(1024) & (dice.nextBoolean() ? 1023 : 68), known = upTo(1024) & upTo(1024);
                same("record " + marks + " " + known, x.record(marks, known), m.record(marks, known));
            }
            case 6 -> {
                int what = upTo(3);
                same("same " + r + " " + second + " " + what, x.same(r, second, what), m.same(r, second, what));
            }
            default -> {
                int i = dice.nextInt(8) == 0 ? upTo(3) : -1 - dice.nextInt(2);
                same("things " + i, x.things(i), m.things(i));
            }
        }
    }

    private void host() {
        int s = upTo(4), i = upTo(12), other = upTo(4), j = upTo(12), n = upTo(9);
        switch (dice.nextInt(6)) {
            case 0 -> {
                int sort = upTo(3), size = upTo(41);
                same("sheet " + s + " " + sort + " " + size, x.sheet(s, sort, size), m.sheet(s, sort, size));
            }
            case 1, 2, 3 -> {
                int v = dice.nextInt(6) == 0 ? dice.nextInt() : dice.nextInt(5);
                int at = dice.nextBoolean() ? i : upTo(40);
                same("cell " + s + " " + at + " " + v, x.cell(s, at, v), m.cell(s, at, v));
            }
            case 4 -> same("copy " + s + " " + i + " " + other + " " + j + " " + n, x.copy(s, i, other, j, n),
                    m.copy(s, i, other, j, n));
            default -> {
                int sort = upTo(3);
                same("papers " + s + " " + sort + " " + i + " " + n, x.papers(s, sort, i, n), m.papers(s, sort, i, n));
            }
        }
    }

    // ---- texts

    private static void checkText(Random dice, int run) {
        String text = randomText(dice);
        if (text.length() > 160) return;
        VaseCourt court = new VaseCourt(3);
        TextModel model = TextModel.read(text);
        DUE.is("text run " + run + ": " + text, Due.textOf(court, text), model.fault >= 0 ? -100 - model.fault : 1);
        if (model.fault >= 0) return;
        court.law(2, 0, 1);
        for (int part = 0; part < 2; part++) {
            DUE.is("part " + part + " of " + text, court.says(2, 1, 3, part), model.value(part, new int[] {2, 1, 3, 4, 0, 0}));
        }
    }

    private static String randomText(Random dice) {
        String gap = dice.nextInt(4) == 0 ? "" : " ";
        int depth = 1 + dice.nextInt(7);
        StringBuilder text = new StringBuilder("hold ");
        randomE(dice, text, depth, gap);
        text.append(gap).append(';').append(dice.nextInt(5) == 0 ? "\n" : gap).append("limit ");
        if (dice.nextBoolean()) text.append(dice.nextInt(13));
        else randomE(dice, text, dice.nextInt(4), gap);
        text.append(gap).append(';');
        for (int k = dice.nextInt(4) == 0 ? dice.nextInt(4) : 0; k > 0; k--) spoil(dice, text);
        return text.toString();
    }

    private static void spoil(Random dice, StringBuilder text) {
        String[] bits = {" ", ";", "(", ")", "-", "+", "*", "<", "=", "not ", "and ", "or ", "hold ", "x", "7", "12345", "\t", "open "};
        int at = dice.nextInt(text.length() + 1);
        switch (dice.nextInt(4)) {
            case 0 -> text.setLength(at);
            case 1 -> {
                if (at < text.length()) text.deleteCharAt(at);
            }
            case 2 -> {
                if (at < text.length()) text.setCharAt(at, (char) dice.nextInt(256));
            }
            default -> text.insert(at, bits[dice.nextInt(bits.length)]);
        }
    }

    private static void randomE(Random dice, StringBuilder text, int depth, String gap) {
        int ors = dice.nextInt(4) == 0 ? 2 : 1;
        for (int k = 0; k < ors; k++) {
            if (k > 0) text.append(dice.nextBoolean() ? " or " : " and ");
            int nots = dice.nextInt(5) == 0 ? dice.nextInt(3) : 0;
            for (int n = 0; n < nots; n++) text.append("not ");
            randomSum(dice, text, depth, gap);
            if (dice.nextInt(3) == 0) {
                text.append(gap).append(dice.nextBoolean() ? "<" : "=").append(gap);
                randomSum(dice, text, depth, gap);
            }
        }
    }

    private static void randomSum(Random dice, StringBuilder text, int depth, String gap) {
        int terms = dice.nextInt(3) == 0 ? 2 + dice.nextInt(2) : 1;
        for (int k = 0; k < terms; k++) {
            if (k > 0) text.append(gap).append("+-*".charAt(dice.nextInt(3))).append(gap);
            for (int n = dice.nextInt(6) == 0 ? 1 + dice.nextInt(2) : 0; n > 0; n--) text.append('-').append(gap);
            if (depth > 0 && dice.nextInt(3) != 0 && text.length() < 90) {
                text.append('(').append(gap);
                randomE(dice, text, depth - 1, gap);
                text.append(gap).append(')');
            } else if (dice.nextBoolean()) {
                text.append(dice.nextInt(dice.nextBoolean() ? 3 : 10000));
            } else {
                text.append(new String[] {"from", "to", "period", "now", "papers", "open"}[dice.nextInt(6)]);
            }
        }
    }
}
