import java.util.Arrays;
import java.util.Random;

/**
 * Courts with too many histories to tell one by one, against counts that carry along in each period what matters
 * of the past: whether places were passed, whether a claim stands, to whom the thing went back.
 */
public final class WideTest {
    private static final int RUNS = 120, LANDS = 5, FIRST_CUT = 10000;
    private static final String[] TEXTS = {
        "hold period < 3 or to = 2; limit 8;", "hold not open < 2; limit papers * 3 + 1;",
        "hold from + to = 4 and not period = 5; limit now - 2;", "hold 0; limit 12;", "hold open - 1; limit 3 - from;"};
    private static final Due DUE = new Due();

    private final int run;
    private final Random dice;
    private final VaseCourt x;
    private final int t;
    private final int[][][] open;
    private final boolean[][][] back;
    private final boolean[][] allowed;

    private WideTest(int run) {
        this.run = run;
        dice = new Random(run);
        t = 12 - run % 5;
        open = new int[t][LANDS][LANDS];
        back = new boolean[t][LANDS][LANDS];
        allowed = new boolean[t][LANDS];
        x = told();
    }

    public static void main(String[] args) {
        long most = 0;
        for (int run = 0; run < RUNS; run++) {
            WideTest test = new WideTest(run);
            test.lookAtPlaces();
            test.lookAtLinks();
            test.checkHistories();
            test.checkRows();
            test.checkGiven();
            test.checkQuestions();
            most = Math.max(most, test.x.histories());
        }
        DUE.is("some court has more than a million histories", most > 1000000 ? 1 : 0, 1);
        DUE.end();
    }

    private void due(String call, long got, long want) {
        DUE.is("run " + run + ": " + call, got, want);
    }

    /** The same court at each call, so that what is looked at here costs none of the 512 calls of another one. */
    private VaseCourt told() {
        Random same = new Random(run);
        VaseCourt court = new VaseCourt(t - 2);
        tellWaysAndSoil(court, same);
        tellPapers(court, same);
        for (String text : TEXTS) Due.textOf(court, text);
        for (int laws = same.nextInt(8); laws > 0; laws--) {
            court.law(same.nextInt(LANDS), same.nextInt(t), same.nextInt(TEXTS.length + 1));
        }
        return court;
    }

    private void tellWaysAndSoil(VaseCourt court, Random same) {
        for (int[][] links : open) for (int[] ends : links) Arrays.fill(ends, 0);
        for (int ways = 14 + same.nextInt(7); ways > 0; ways--) {
            int a = same.nextInt(LANDS), b = (a + 1 + same.nextInt(LANDS - 1)) % LANDS;
            int from = same.nextInt(2), to = t - 2 - same.nextInt(2);
            court.way(a, b, from, to);
            for (int period = from; period <= to; period++) open[period][a][b]++;
        }
        if (same.nextInt(3) == 0) court.soil(1 + same.nextInt(31));
    }

    private void tellPapers(VaseCourt court, Random same) {
        for (int papers = same.nextInt(4); papers > 0; papers--) {
            int kind = same.nextInt(3) == 0 ? same.nextInt(6) : 5;
            int leans = same.nextInt(1 << court.count(2));
            court.paper(kind, same.nextInt(LANDS), same.nextInt(LANDS), same.nextInt(t), leans);
        }
        if (court.count(2) > 0 && same.nextInt(2) == 0) court.forge(same.nextInt(court.count(2)), 1);
    }

    /** What a place, a paper and a link are by themselves is tested elsewhere, and taken as it is here. */
    private void lookAtPlaces() {
        VaseCourt court = told();
        int soil = court.count(10), papers = court.count(2);
        for (int land = 0; land < LANDS; land++) {
            for (int period = 0; period < t; period++) allowed[period][land] = period > 0 || (soil >> land & 1) == 1;
        }
        for (int paper = 0; paper < papers; paper++) {
            if (court.paperTold(paper, 6) == 0) continue;
            for (int land = 0; land < LANDS; land++) {
                for (int period = 0; period < t; period++) {
                    if (court.allows(paper, land, period) == 0) allowed[period][land] = false;
                }
            }
        }
    }

    private void lookAtLinks() {
        VaseCourt holds = told(), limits = told();
        for (int period = 0; period < t - 1; period++) {
            for (int from = 0; from < LANDS; from++) {
                for (int to = 0; to < LANDS; to++) {
                    if (from == to || holds.says(from, to, period, 0) != 0) continue;
                    back[period][from][to] = t - 1 - period <= limits.says(from, to, period, 1);
                }
            }
        }
    }

    private boolean goes(int from, int to, int period) {
        return from == to || open[period][from][to] > 0;
    }

    /** How many histories pass (1) or don't pass (0) each of two places, told as 10 * period + land. */
    private long count(int first, int passesFirst, int second, int passesSecond) {
        long[] now = new long[LANDS * 4];
        for (int period = 0; period < t; period++) {
            long[] next = new long[LANDS * 4];
            for (int land = 0; land < LANDS; land++) {
                if (!allowed[period][land]) continue;
                int passed = (10 * period + land == first ? 1 : 0) | (10 * period + land == second ? 2 : 0);
                if (period == 0) next[land * 4 | passed]++;
                for (int from = 0; period > 0 && from < LANDS; from++) {
                    if (!goes(from, land, period - 1)) continue;
                    for (int was = 0; was < 4; was++) next[land * 4 | was | passed] += now[from * 4 | was];
                }
            }
            now = next;
        }
        long sum = 0;
        for (int land = 0; land < LANDS; land++) sum += now[land * 4 | passesFirst | passesSecond << 1];
        return sum;
    }

    private long all() {
        return count(-1, 0, -1, 0);
    }

    private void checkHistories() {
        due("histories", x.histories(), all());
        for (int k = 0; k < 20; k++) {
            int land = dice.nextInt(LANDS), period = dice.nextInt(t);
            int other = dice.nextInt(LANDS), second = dice.nextInt(t);
            int place = 10 * period + land, otherPlace = 10 * second + other;
            long at = count(place, 1, -1, 0);
            due("at " + place, x.at(land, period), at);
            due("both " + place + " " + otherPlace, x.both(land, period, other, second),
                    count(place, 1, otherPlace, 1));
            due("worst " + place, x.worst(land, period), Math.max(at, all() - at));
        }
    }

    private void checkRows() {
        int[][] rows = new int[FIRST_CUT][];
        int found = tellRows(rows, 0, new int[t], 0);
        for (int k = 0; k < 25; k++) {
            int i = k < 2 ? FIRST_CUT - 1 - k : dice.nextInt(dice.nextBoolean() ? FIRST_CUT : 40);
            int period = dice.nextInt(t);
            due("history " + i + " " + period, x.history(i, period), i < found ? rows[i][period] : VaseCourt.NONE);
        }
    }

    private int tellRows(int[][] rows, int found, int[] row, int period) {
        if (period == t) {
            rows[found] = row.clone();
            return found + 1;
        }
        int told = found;
        for (int land = 0; land < LANDS && told < rows.length; land++) {
            if (!allowed[period][land] || period > 0 && !goes(row[period - 1], land, period - 1)) continue;
            row[period] = land;
            told = tellRows(rows, told, row, period + 1);
        }
        return told;
    }

    private void checkGiven() {
        int kept = x.judge();
        for (int land = 0; land < LANDS; land++) {
            due("given " + land, x.given(land), givenTo(land));
            due("judged " + land, x.judged(kept, land), givenTo(land));
            due("claim " + land, x.claim(land), all() - withoutClaim(land));
        }
        due("changed", x.changed(kept), 0);
    }

    /** Each history has a fate, that is the land to which it went back, or LANDS as long as it did not. */
    private long givenTo(int wanted) {
        long[][] now = new long[LANDS][LANDS + 1];
        for (int land = 0; land < LANDS; land++) now[land][LANDS] = allowed[0][land] ? 1 : 0;
        for (int period = 0; period < t - 1; period++) {
            long[][] next = new long[LANDS][LANDS + 1];
            for (int from = 0; from < LANDS; from++) {
                for (int to = 0; to < LANDS; to++) {
                    if (!allowed[period + 1][to] || !goes(from, to, period)) continue;
                    for (int fate = 0; fate <= LANDS; fate++) {
                        int later = fate == LANDS && back[period][from][to] ? from : fate;
                        next[to][later] += now[from][fate];
                    }
                }
            }
            now = next;
        }
        long sum = now[wanted][LANDS];
        for (int land = 0; land < LANDS; land++) sum += now[land][wanted];
        return sum;
    }

    private long withoutClaim(int claimant) {
        long[] now = new long[LANDS];
        for (int land = 0; land < LANDS; land++) now[land] = allowed[0][land] ? 1 : 0;
        for (int period = 0; period < t - 1; period++) {
            long[] next = new long[LANDS];
            for (int from = 0; from < LANDS; from++) {
                for (int to = 0; to < LANDS; to++) {
                    boolean claims = from == claimant && back[period][from][to];
                    if (allowed[period + 1][to] && goes(from, to, period) && !claims) next[to] += now[from];
                }
            }
            now = next;
        }
        long sum = 0;
        for (int land = 0; land < LANDS; land++) sum += now[land];
        return sum;
    }

    private void checkQuestions() {
        long all = all(), least = all, leastOfTwo = all;
        int question = VaseCourt.NONE, firstOfTwo = VaseCourt.NONE;
        for (int place = 0; place < 10 * t; place++) {
            if (place % 10 >= LANDS) continue;
            long yes = count(place, 1, -1, 0);
            if (Math.max(yes, all - yes) < least) {
                least = Math.max(yes, all - yes);
                question = place;
            }
            long ofTwo = Math.max(leastAmong(place, 1, yes), leastAmong(place, 0, all - yes));
            due("worstOfTwo " + place, x.worstOfTwo(place % 10, place / 10), ofTwo);
            if (ofTwo < leastOfTwo) {
                leastOfTwo = ofTwo;
                firstOfTwo = place;
            }
        }
        due("question", x.question(), question);
        due("firstOfTwo", x.firstOfTwo(), firstOfTwo);
    }

    private long leastAmong(int place, int passes, long among) {
        long least = among;
        for (int next = 0; next < 10 * t; next++) {
            if (next % 10 >= LANDS) continue;
            least = Math.min(least, Math.max(count(place, passes, next, 1), count(place, passes, next, 0)));
        }
        return least;
    }
}
