import java.util.function.Supplier;
import java.util.function.ToLongFunction;

/**
 * Of each number that a call is given the last that is allowed and the first that is not, on both sides; which
 * refusal is answered, if there is more than one; and that a refused call changes nothing.
 */
public final class RefusalTest {
    private static final int NONE = -1, BAD = -2, FULL = -4;
    private static final int NOTHING = -11, OUTSIDE = -12, OTHER_SORT = -13, BELOW_ZERO = -14;
    private static final long NO = -4611686018427387904L;
    private static final int MIN = Integer.MIN_VALUE, MAX = Integer.MAX_VALUE;
    private static final Due DUE = new Due();

    private interface Call {
        long on(VaseCourt x, int[] a);
    }

    public static void main(String[] args) {
        rangesOfWaysAndPapers();
        rangesOfHistories();
        rangesOfLaws();
        rangesOfSherdsAndRecords();
        rangesOfSheets();
        rangesOfCopy();
        rangesOfPapersAndTaken();
        badByOtherWords();
        fullAtTheirMost();
        badAheadOfFull();
        fullAheadOfAFault();
        severalBadNumbers();
        orderOfRefusals();
        noneOfAnything();
        DUE.end();
    }

    private static int[] with(int[] good, int k, int number) {
        int[] a = good.clone();
        a[k] = number;
        return a;
    }

    private static void refused(String call, Supplier<VaseCourt> setup, ToLongFunction<VaseCourt> asked, long refusal) {
        Portrait.refused(DUE, call, setup, asked, refusal);
    }

    private static void allowed(String name, Supplier<VaseCourt> setup, Call call, int[] good, int k, int[] numbers) {
        for (int n : numbers) {
            long got = call.on(setup.get(), with(good, k, n));
            boolean refusal = got <= BAD && got >= BELOW_ZERO || got == NO;
            DUE.is(name + " refused number " + k + ", which was " + n, refusal ? 1 : 0, 0);
        }
    }

    /** Number k of a call may be least .. most, the others being as they are in good; beside these it is refused. */
    private static void range(String name, Supplier<VaseCourt> setup, Call call, int[] good, int k, int least, int most,
            long refusal) {
        allowed(name, setup, call, good, k, new int[] {least, most});
        for (int not : new int[] {least - 1, most + 1, MIN, MAX}) {
            refused(name + ", number " + k + " being " + not, setup, x -> call.on(x, with(good, k, not)), refusal);
        }
    }

    private static void range(String name, Call call, int[] good, int k, int least, int most, long refusal) {
        range(name, Setups::busy, call, good, k, least, most, refusal);
    }

    private static void land(String name, Call call, int[] good, int k, long refusal) {
        range(name, call, good, k, 0, 4, refusal);
    }

    /** A place: a land, and a period behind it. */
    private static void place(String name, Call call, int[] good, int k, long refusal) {
        land(name, call, good, k, refusal);
        range(name, call, good, k + 1, 0, Setups.NOW, refusal);
    }

    private static void rangesOfWaysAndPapers() {
        Call way = (x, a) -> x.way(a[0], a[1], a[2], a[3]);
        int[] goodWay = {2, 3, 1, 2};
        land("2 way", way, goodWay, 0, BAD);
        land("2 way", way, goodWay, 1, BAD);
        range("2 way", way, goodWay, 2, 0, 2, BAD);
        range("2 way", way, goodWay, 3, 1, Setups.NOW - 1, BAD);
        range("2 way", way, new int[] {2, 3, 3, 3}, 2, 0, Setups.NOW - 1, BAD);
        range("2 way", way, new int[] {2, 3, 0, 0}, 3, 0, Setups.NOW - 1, BAD);
        range("3 soil", (x, a) -> x.soil(a[0]), new int[1], 0, 0, 31, BAD);
        Call paper = (x, a) -> x.paper(a[0], a[1], a[2], a[3], a[4]);
        int[] goodPaper = {1, 2, 3, 1, 0};
        range("4 paper", paper, goodPaper, 0, 0, 5, BAD);
        land("4 paper", paper, goodPaper, 1, BAD);
        place("4 paper", paper, goodPaper, 2, BAD);
        range("4 paper", paper, goodPaper, 4, 0, (1 << Setups.PAPERS) - 1, BAD);
        Call told = (x, a) -> x.paperTold(a[0], a[1]);
        range("5 paperTold", told, new int[2], 0, 0, Setups.PAPERS - 1, BAD);
        range("5 paperTold", told, new int[2], 1, 0, 6, BAD);
        Call allows = (x, a) -> x.allows(a[0], a[1], a[2]);
        range("6 allows", allows, new int[3], 0, 0, Setups.PAPERS - 1, BAD);
        place("6 allows", allows, new int[3], 1, BAD);
        Call forge = (x, a) -> x.forge(a[0], a[1]);
        range("7 forge, not", forge, new int[] {0, 0}, 0, 0, Setups.PAPERS - 1, BAD);
        range("7 forge", forge, new int[] {0, 1}, 0, 0, Setups.PAPERS - 1, BAD);
        range("7 forge", forge, new int[2], 1, 0, 1, BAD);
        range("8 fall", (x, a) -> x.fall(a[0]), new int[1], 0, 0, Setups.PAPERS - 1, BAD);
    }

    private static void rangesOfHistories() {
        place("10 at", (x, a) -> x.at(a[0], a[1]), new int[2], 0, NO);
        Call both = (x, a) -> x.both(a[0], a[1], a[2], a[3]);
        place("11 both", both, new int[4], 0, NO);
        place("11 both", both, new int[4], 2, NO);
        Call history = (x, a) -> x.history(a[0], a[1]);
        range("12 history", history, new int[2], 0, 0, 9999, BAD);
        range("12 history", history, new int[2], 1, 0, Setups.NOW, BAD);
        place("23 worst", (x, a) -> x.worst(a[0], a[1]), new int[2], 0, NO);
        place("25 worstOfTwo", (x, a) -> x.worstOfTwo(a[0], a[1]), new int[2], 0, NO);
    }

    private static void rangesOfLaws() {
        range("13 feed", (x, a) -> x.feed(a[0], 7), new int[1], 0, 1, 8, BAD);
        Call law = (x, a) -> x.law(a[0], a[1], a[2]);
        place("15 law", law, new int[3], 0, BAD);
        range("15 law", law, new int[3], 2, 0, Setups.TEXTS - 1, BAD);
        place("16 lawOf", (x, a) -> x.lawOf(a[0], a[1]), new int[2], 0, BAD);
        Call says = (x, a) -> x.says(a[0], a[1], a[2], a[3]);
        int[] goodLink = {1, 2, 0, 1};
        land("17 says", says, goodLink, 0, NO);
        land("17 says", says, goodLink, 1, NO);
        range("17 says", says, goodLink, 2, 0, Setups.NOW - 1, NO);
        range("17 says", says, goodLink, 3, 0, 1, NO);
        land("18 given", (x, a) -> x.given(a[0]), new int[1], 0, NO);
        land("19 claim", (x, a) -> x.claim(a[0]), new int[1], 0, NO);
        Call judged = (x, a) -> x.judged(a[0], a[1]);
        range("21 judged", judged, new int[2], 0, 0, Setups.JUDGEMENTS - 1, NO);
        land("21 judged", judged, new int[2], 1, NO);
        range("22 changed", (x, a) -> x.changed(a[0]), new int[1], 0, 0, Setups.JUDGEMENTS - 1, BAD);
    }

    private static void rangesOfSherdsAndRecords() {
        Call sherd = (x, a) -> x.sherd(a[0], a[1]);
        range("27 sherd", sherd, new int[2], 0, 0, 9999, BAD);
        range("27 sherd", sherd, new int[2], 1, 0, 9999, BAD);
        Call set = (x, a) -> x.set(a[0], a[1]);
        range("28 set", set, new int[] {0, 1}, 0, 0, 1, BAD);
        range("28 set slack", set, new int[] {0, 1}, 1, 0, 4, BAD);
        range("28 set enough", set, new int[] {1, 1}, 1, 1, 10, BAD);
        Call joined = (x, a) -> x.joined(a[0], a[1]);
        range("29 joined", joined, new int[] {1, 2}, 0, 0, Setups.SHERDS - 1, BAD);
        range("29 joined", joined, new int[] {1, 2}, 1, 0, Setups.SHERDS - 1, BAD);
        range("30 row", (x, a) -> x.row(a[0]), new int[1], 0, -1, Setups.busy().row(-1) - 1, NONE);
        Call record = (x, a) -> x.record(a[0], a[1]);
        range("31 record", record, new int[2], 0, 0, 1023, BAD);
        range("31 record", record, new int[2], 1, 0, 1023, BAD);
        Call same = (x, a) -> x.same(a[0], a[1], a[2]);
        for (int k = 0; k < 2; k++) range("32 same", same, new int[] {1, 2, 2}, k, 0, Setups.RECORDS - 1, BAD);
        range("32 same", same, new int[] {1, 2, 2}, 2, 0, 2, BAD);
        range("33 things", (x, a) -> x.things(a[0]), new int[1], 0, -2, -1, BAD);
        range("34 count", (x, a) -> x.count(a[0]), new int[1], 0, 0, 10, BAD);
    }

    private static void rangesOfSheets() {
        Call sheet = (x, a) -> x.sheet(a[0], a[1], a[2]);
        range("35 sheet", sheet, new int[] {0, 0, 1}, 0, 0, 3, BAD);
        range("35 sheet, missing", sheet, new int[] {0, -1, 1}, 0, 0, 3, BAD);
        range("35 sheet", sheet, new int[] {0, 0, 1}, 1, -1, 2, BAD);
        for (int sort = 0; sort < 3; sort++) {
            int[] good = {0, sort, 1};
            allowed("35 sheet", Setups::busy, sheet, good, 2, new int[] {0, 40});
            for (int n : new int[] {41, MAX}) {
                refused("35 sheet of " + n, Setups::busy, x -> sheet.on(x, with(good, 2, n)), BAD);
            }
            for (int n : new int[] {-1, MIN}) {
                refused("35 sheet of " + n, Setups::busy, x -> sheet.on(x, with(good, 2, n)), BELOW_ZERO);
            }
        }
        allowed("35 n does not matter", Setups::busy, sheet, new int[] {0, -1, 0}, 2, new int[] {-1, 41, MIN, MAX});
        Call cell = (x, a) -> x.cell(a[0], a[1], a[2]);
        allowed("36 cell", Setups::busy, cell, new int[] {0, 0, 4}, 0, new int[] {0, 1, 2});
        for (int not : new int[] {-1, 4, MIN, MAX}) refused("36 cell of sheet " + not, Setups::busy, x -> x.cell(not, 0, 4), BAD);
        refused("36 cell of a missing one", Setups::busy, x -> x.cell(3, 0, 4), NOTHING);
        range("36 cell", cell, new int[] {0, 0, 4}, 1, 0, Setups.BYTES - 1, OUTSIDE);
        range("36 cell", cell, new int[] {1, 0, 4}, 1, 0, Setups.BYTES - 1, OUTSIDE);
        range("36 cell", cell, new int[] {2, 0, 4}, 1, 0, Setups.INTS - 1, OUTSIDE);
        allowed("36 cell", Setups::busy, cell, new int[] {0, 0, 4}, 2, new int[] {0, -1, 128, MIN, MAX});
    }

    /** Sheets 0 and 1 are ints, 2 shorts, 3 missing. */
    private static void rangesOfCopy() {
        Call copy = (x, a) -> x.copy(a[0], a[1], a[2], a[3], a[4]);
        Supplier<VaseCourt> setup = Setups::likeSheets;
        int[] good = {0, 4, 1, 0, 3};
        for (int k = 0; k <= 2; k += 2) {
            int number = k;
            allowed("37 copy", setup, copy, good, k, new int[] {0, 1});
            for (int not : new int[] {-1, 4, MIN, MAX}) {
                refused("37 copy, sheet being " + not, setup, x -> copy.on(x, with(good, number, not)), BAD);
            }
            refused("37 copy, sheet of shorts", setup, x -> copy.on(x, with(good, number, 2)), OTHER_SORT);
            refused("37 copy, sheet missing", setup, x -> copy.on(x, with(good, number, 3)), NOTHING);
        }
        range("37 copy from", setup, copy, good, 1, 0, Setups.BYTES - 3, OUTSIDE);
        range("37 copy to", setup, copy, good, 3, 0, Setups.INTS - 3, OUTSIDE);
        range("37 copy n, by the first", setup, copy, good, 4, 0, Setups.BYTES - 4, OUTSIDE);
        range("37 copy n, by the other", setup, copy, new int[] {1, 0, 0, 3, 1}, 4, 0, Setups.BYTES - 3, OUTSIDE);
        range("37 copy all", setup, copy, new int[] {0, 0, 0, 0, 1}, 4, 0, Setups.BYTES, OUTSIDE);
        range("37 copy none from", setup, copy, new int[] {0, 0, 1, 0, 0}, 1, 0, Setups.BYTES, OUTSIDE);
        range("37 copy none to", setup, copy, new int[] {0, 0, 1, 0, 0}, 3, 0, Setups.INTS, OUTSIDE);
    }

    /** In busy() sheet 0 is bytes, 1 shorts, 2 ints, 3 missing. */
    private static void rangesOfPapersAndTaken() {
        Call papers = (x, a) -> x.papers(a[0], a[1], a[2], a[3]);
        for (int sheet = 0; sheet < 3; sheet++) {
            int size = sheet == 2 ? Setups.INTS : Setups.BYTES;
            int[] good = {sheet, sheet, 0, 1};
            range("38 papers from", Setups::busy, papers, good, 2, 0, size - 5, OUTSIDE);
            for (int sort = 0; sort < 3; sort++) {
                int other = sort;
                if (sort == sheet) allowed("38 papers", Setups::busy, papers, good, 1, new int[] {sort});
                else refused("38 papers of sort " + sort, Setups::busy, x -> papers.on(x, with(good, 1, other)), OTHER_SORT);
            }
            for (int not : new int[] {-1, 3, MIN, MAX}) {
                refused("38 papers of sort " + not, Setups::busy, x -> papers.on(x, with(good, 1, not)), BAD);
            }
            for (int not : new int[] {-1, 4, MIN, MAX}) {
                refused("38 papers of sheet " + not, Setups::busy, x -> papers.on(x, with(good, 0, not)), BAD);
            }
            for (int not : new int[] {-1, 9, MIN, MAX}) {
                refused("38 papers, so many: " + not, Setups::busy, x -> papers.on(x, with(good, 3, not)), BAD);
            }
            refused("38 papers missing", Setups::busy, x -> papers.on(x, with(good, 0, 3)), NOTHING);
        }
        allowed("38 papers, so many", RefusalTest::longSheet, papers, new int[] {0, 1, 0, 1}, 3, new int[] {0, 8});
        Call taken = (x, a) -> x.taken(a[0], a[1]);
        range("39 taken", taken, new int[2], 0, 0, Setups.PAPERS - 1, NOTHING);
        for (int not : new int[] {-1, 6, MIN, MAX}) refused("39 taken for " + not, Setups::busy, x -> x.taken(0, not), BAD);
        for (int k = 1; k < 6; k++) {
            int kind = k;
            refused("39 a photo taken for " + k, Setups::busy, x -> x.taken(0, kind), OTHER_SORT);
        }
    }

    private static VaseCourt longSheet() {
        VaseCourt x = new VaseCourt(0);
        x.sheet(0, 1, 40);
        return x;
    }

    private static void badByOtherWords() {
        for (int land = 0; land < 5; land++) {
            int a = land;
            refused("2 way of lands alike", Setups::busy, x -> x.way(a, a, 0, 1), BAD);
            refused("17 link of lands alike", Setups::busy, x -> x.says(a, a, 0, 0), NO);
        }
        refused("2 way that ends ahead of its first period", Setups::busy, x -> x.way(0, 1, 2, 1), BAD);
        refused("2 way from t - 1", Setups::busy, x -> x.way(0, 1, 4, 4), BAD);
        for (int leans : new int[] {16, 17, 1 << 15, 1 << 30, -16}) {
            refused("4 leans " + leans, Setups::busy, x -> x.paper(0, 0, 0, 0, leans), BAD);
        }
        for (int sherd = 0; sherd < Setups.SHERDS; sherd++) {
            int a = sherd;
            refused("29 a sherd and itself", Setups::busy, x -> x.joined(a, a), BAD);
        }
    }

    private static void fullAtTheirMost() {
        refused("2 way 20", Setups::full, x -> x.way(0, 1, 0, 0), FULL);
        refused("4 paper 16", Setups::full, x -> x.paper(0, 0, 0, 0, 0), FULL);
        refused("4 paper 16 that leans on all", Setups::full, x -> x.paper(5, 4, 4, 11, 65535), FULL);
        refused("14 text 6", Setups::full, VaseCourt::text, FULL);
        refused("15 law 20", Setups::full, x -> x.law(0, 11, 5), FULL);
        refused("20 judgement 12", Setups::full, VaseCourt::judge, FULL);
        refused("27 sherd 8", Setups::full, x -> x.sherd(9999, 9999), FULL);
        refused("31 record 10", Setups::full, x -> x.record(1023, 1023), FULL);
        for (int n = 1; n <= 8; n++) {
            int bytes = n;
            refused("13 feed " + n + " to 160 bytes", Setups::full, x -> x.feed(bytes, -1), FULL);
            refused("13 feed " + n + " to 160 bytes", Setups::fullTape, x -> x.feed(bytes, -1), FULL);
        }
    }

    private static void badAheadOfFull() {
        refused("2 way", Setups::full, x -> x.way(5, 1, 0, 0), BAD);
        refused("2 way", Setups::full, x -> x.way(0, 5, 0, 0), BAD);
        refused("2 way", Setups::full, x -> x.way(1, 1, 0, 0), BAD);
        refused("2 way", Setups::full, x -> x.way(0, 1, -1, 0), BAD);
        refused("2 way", Setups::full, x -> x.way(0, 1, 0, 11), BAD);
        refused("4 paper", Setups::full, x -> x.paper(6, 0, 0, 0, 0), BAD);
        refused("4 paper", Setups::full, x -> x.paper(0, 5, 0, 0, 0), BAD);
        refused("4 paper", Setups::full, x -> x.paper(0, 0, 5, 0, 0), BAD);
        refused("4 paper", Setups::full, x -> x.paper(0, 0, 0, 12, 0), BAD);
        refused("4 paper", Setups::full, x -> x.paper(0, 0, 0, 0, 65536), BAD);
        refused("4 paper", Setups::full, x -> x.paper(0, 0, 0, 0, -1), BAD);
        refused("13 feed", Setups::full, x -> x.feed(0, 0), BAD);
        refused("13 feed", Setups::full, x -> x.feed(9, 0), BAD);
        refused("15 law", Setups::full, x -> x.law(5, 0, 0), BAD);
        refused("15 law", Setups::full, x -> x.law(0, 12, 0), BAD);
        refused("15 law", Setups::full, x -> x.law(0, 0, 6), BAD);
        refused("27 sherd", Setups::full, x -> x.sherd(10000, 0), BAD);
        refused("27 sherd", Setups::full, x -> x.sherd(0, -1), BAD);
        refused("31 record", Setups::full, x -> x.record(1024, 0), BAD);
        refused("31 record", Setups::full, x -> x.record(0, -1), BAD);
    }

    private static void fullAheadOfAFault() {
        Supplier<VaseCourt> setup = () -> {
            VaseCourt x = new VaseCourt(0);
            for (int k = 1; k <= 5; k++) Due.textOf(x, "hold 1;limit 1;");
            return x;
        };
        refused("14 an empty tape, no room", setup, VaseCourt::text, FULL);
        Supplier<VaseCourt> faulty = () -> {
            VaseCourt x = setup.get();
            Due.feedAll(x, "hold ?");
            return x;
        };
        refused("14 a fault, no room", faulty, VaseCourt::text, FULL);
        VaseCourt x = faulty.get();
        DUE.is("14 full", x.text(), FULL);
        DUE.is("14 the tape stays", x.count(9), 6);
        DUE.is("14 full, again", x.text(), FULL);
        DUE.is("14 and goes on behind it", x.feed(8, 0), 14);
    }

    private static void severalBadNumbers() {
        refused("2 way", Setups::busy, x -> x.way(MIN, MAX, MAX, MIN), BAD);
        refused("4 paper", Setups::busy, x -> x.paper(MAX, MIN, MAX, MIN, MAX), BAD);
        refused("5 paperTold", Setups::busy, x -> x.paperTold(MAX, MAX), BAD);
        refused("6 allows", Setups::busy, x -> x.allows(MIN, MIN, MIN), BAD);
        refused("7 forge", Setups::busy, x -> x.forge(MAX, MAX), BAD);
        refused("10 at", Setups::busy, x -> x.at(MAX, MAX), NO);
        refused("11 both", Setups::busy, x -> x.both(MIN, MAX, MAX, MIN), NO);
        refused("12 history", Setups::busy, x -> x.history(MAX, MAX), BAD);
        refused("15 law", Setups::busy, x -> x.law(MIN, MAX, MAX), BAD);
        refused("16 lawOf", Setups::busy, x -> x.lawOf(MIN, MIN), BAD);
        refused("17 says", Setups::busy, x -> x.says(MAX, MAX, MAX, MAX), NO);
        refused("21 judged", Setups::busy, x -> x.judged(MIN, MIN), NO);
        refused("23 worst", Setups::busy, x -> x.worst(MIN, MAX), NO);
        refused("25 worstOfTwo", Setups::busy, x -> x.worstOfTwo(MAX, MIN), NO);
        refused("27 sherd", Setups::busy, x -> x.sherd(MAX, MIN), BAD);
        refused("28 set", Setups::busy, x -> x.set(MAX, MIN), BAD);
        refused("29 joined", Setups::busy, x -> x.joined(MAX, MAX), BAD);
        refused("31 record", Setups::busy, x -> x.record(MIN, MAX), BAD);
        refused("32 same", Setups::busy, x -> x.same(MAX, MIN, MAX), BAD);
        refused("35 sheet", Setups::busy, x -> x.sheet(MAX, MAX, MAX), BAD);
        refused("36 cell", Setups::busy, x -> x.cell(MIN, MIN, MIN), BAD);
        refused("37 copy", Setups::busy, x -> x.copy(MIN, MAX, MAX, MIN, MIN), BAD);
        refused("38 papers", Setups::busy, x -> x.papers(MAX, MAX, MAX, MAX), BAD);
        refused("39 taken", Setups::busy, x -> x.taken(MIN, MAX), BAD);
    }

    /** In busy() sheet 0 is bytes, 1 shorts, 2 ints, 3 missing. */
    private static void orderOfRefusals() {
        refused("12 no such period, not so many", Setups::busy, x -> x.history(9999, 5), BAD);
        refused("12 not so many", Setups::busy, x -> x.history(9999, 4), NONE);
        refused("35 no such sheet, n below 0", Setups::busy, x -> x.sheet(4, 0, -1), BAD);
        refused("35 no such sort, n below 0", Setups::busy, x -> x.sheet(0, 3, -1), BAD);
        refused("35 no such sheet, missing", Setups::busy, x -> x.sheet(4, -1, 0), BAD);
        refused("36 no such sheet, outside", Setups::busy, x -> x.cell(4, -1, 0), BAD);
        refused("36 missing, outside", Setups::busy, x -> x.cell(3, -1, 0), NOTHING);
        refused("37 missing, no such sheet", Setups::busy, x -> x.copy(3, 0, 4, 0, 0), BAD);
        refused("37 no such sheet, missing", Setups::busy, x -> x.copy(4, 0, 3, 0, 0), BAD);
        refused("37 missing, other sort", Setups::busy, x -> x.copy(3, 0, 0, 0, 0), NOTHING);
        refused("37 other sort, missing", Setups::busy, x -> x.copy(0, 0, 3, 0, 0), NOTHING);
        refused("37 missing and itself", Setups::busy, x -> x.copy(3, 0, 3, 0, 0), NOTHING);
        refused("37 missing, outside", Setups::busy, x -> x.copy(0, 11, 3, 0, -1), NOTHING);
        refused("37 unlike sorts, outside", Setups::busy, x -> x.copy(0, -1, 1, 11, 1), OTHER_SORT);
        refused("37 unlike sorts, n below 0", Setups::busy, x -> x.copy(0, 0, 1, 0, -1), OTHER_SORT);
        refused("37 no such sheet, n below 0", Setups::busy, x -> x.copy(0, 0, 4, 0, -1), BAD);
        refused("38 no such sort, missing", Setups::busy, x -> x.papers(3, 3, 0, 1), BAD);
        refused("38 n, missing", Setups::busy, x -> x.papers(3, 0, 0, 9), BAD);
        refused("38 n, other sort", Setups::busy, x -> x.papers(0, 1, 0, -1), BAD);
        refused("38 n, outside", Setups::busy, x -> x.papers(0, 0, -1, 9), BAD);
        refused("38 no such sheet, outside", Setups::busy, x -> x.papers(4, 0, -1, 1), BAD);
        refused("38 other sort, outside", Setups::busy, x -> x.papers(0, 1, 11, 1), OTHER_SORT);
        refused("38 missing, outside", Setups::busy, x -> x.papers(3, 1, -1, 1), NOTHING);
        refused("39 no such kind, no such paper", Setups::busy, x -> x.taken(4, 6), BAD);
        refused("39 no such paper, whatever the kind", Setups::busy, x -> x.taken(4, 5), NOTHING);
    }

    /** The empty object: number 0 of each thing is none such yet. */
    private static void noneOfAnything() {
        Supplier<VaseCourt> empty = () -> new VaseCourt(0);
        refused("4 leans on paper 0", empty, x -> x.paper(0, 0, 0, 0, 1), BAD);
        refused("5 paper 0", empty, x -> x.paperTold(0, 0), BAD);
        refused("6 paper 0", empty, x -> x.allows(0, 0, 0), BAD);
        refused("7 paper 0", empty, x -> x.forge(0, 1), BAD);
        refused("8 paper 0", empty, x -> x.fall(0), BAD);
        refused("14 an empty tape", empty, VaseCourt::text, -100);
        refused("15 text 1", empty, x -> x.law(0, 0, 1), BAD);
        refused("21 judgement 0", empty, x -> x.judged(0, 0), NO);
        refused("22 judgement 0", empty, x -> x.changed(0), BAD);
        refused("29 sherds 0, 1", empty, x -> x.joined(0, 1), BAD);
        refused("30 sherd 0 of the row", empty, x -> x.row(0), NONE);
        refused("32 record 0", empty, x -> x.same(0, 0, 2), BAD);
        for (int sheet = 0; sheet < 4; sheet++) {
            int s = sheet;
            refused("36 sheet " + s, empty, x -> x.cell(s, 0, 0), NOTHING);
            refused("37 sheet " + s, empty, x -> x.copy(s, 0, s, 0, 0), NOTHING);
            for (int sort = 0; sort < 3; sort++) {
                int taken = sort;
                refused("38 sheet " + s, empty, x -> x.papers(s, taken, 0, 0), NOTHING);
            }
        }
        refused("39 paper 0", empty, x -> x.taken(0, 0), NOTHING);
    }
}
