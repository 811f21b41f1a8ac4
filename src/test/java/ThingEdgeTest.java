/** The edges that the document's words name of sherds, records and sheets. */
public final class ThingEdgeTest {
    private static final int NONE = -1, BAD = -2, FULL = -4, NOTHING = -11, OUTSIDE = -12, OTHER_SORT = -13;
    private static final int MIN = Integer.MIN_VALUE, MAX = Integer.MAX_VALUE;
    private static final Due DUE = new Due();

    public static void main(String[] args) {
        sherdsAreEightAtMost();
        edgesHave4Digits();
        digitsAreNineTogether();
        slackIsFrom0To4();
        noSherdsNoRow();
        theRowOfOneAndOfEight();
        eachSherdOnceAtMost();
        theRowIsAsLongAsCanBe();
        ofLikeRowsTheLeast();
        theRowIsNotKept();
        recordsAreTenAtMost();
        marksAreTenBits();
        marksThatAreNotKnown();
        enoughIsFrom1To10();
        oneAndItself();
        oneThingOneAfterTheOther();
        thingsOfNoneOfAll();
        aCopyIsOfOneThing();
        countsOfFullAndEmpty();
        sheetsAreMissingAtFirst();
        sheetsHaveFortyItemsAtMost();
        aSheetIsMadeAnew();
        cellsKeepTheirLowestBits();
        copiesAsTheyWere();
        copiesOfAllAndNone();
        papersAreEightAtOnceAtMost();
        papersThatDoNotComeAreLeftOut();
        whatStoodAheadCame();
        papersLeanOnThoseOfTheSameCall();
        DUE.end();
    }

    private static void due(String call, long got, long want) {
        DUE.is(call, got, want);
    }

    private static VaseCourt sherds(int... edges) {
        VaseCourt x = new VaseCourt(0);
        for (int k = 0; k < edges.length; k += 2) due("27 sherd", x.sherd(edges[k], edges[k + 1]), k / 2);
        return x;
    }

    private static void rowIs(VaseCourt x, String row) {
        due("30 row of " + row, x.row(-1), row.length());
        for (int i = 0; i < row.length(); i++) due("30 in row " + row + " at " + i, x.row(i), row.charAt(i) - '0');
        for (int i : new int[] {row.length(), row.length() + 1, 8, MAX, -2, -3, MIN}) due("30 none in " + row, x.row(i), NONE);
    }

    /** "SHERDS (8 at most, numbered from 0)". */
    private static void sherdsAreEightAtMost() {
        VaseCourt x = new VaseCourt(0);
        for (int k = 0; k < 7; k++) due("27 sherd " + k, x.sherd(0, 0), k);
        due("27 the last sherd there may be", x.sherd(9999, 1), 7);
        due("27 one too many", x.sherd(0, 0), FULL);
        due("29 the last is there", x.joined(0, 7), 1);
        due("29 behind the last", x.joined(0, 8), BAD);
        due("27 sherds", x.count(6), 8);
    }

    /** "each 4 digits (0 .. 9999)". */
    private static void edgesHave4Digits() {
        due("29 the least and the greatest", sherds(0, 0, 9999, 0).joined(0, 1), 1);
        due("29 the greatest and the least", sherds(0, 9999, 0, 0).joined(0, 1), 1);
        due("29 both the least", sherds(0, 0, 0, 0).joined(0, 1), 0);
        due("29 both the greatest", sherds(0, 9999, 9999, 0).joined(0, 1), 0);
        due("29 one digit, three noughts ahead", sherds(0, 9, 9990, 0).joined(0, 1), 1);
        due("29 one digit, three nines ahead", sherds(0, 9990, 9, 0).joined(0, 1), 1);
    }

    /** "digits aren't 9 together (place by place)". */
    private static void digitsAreNineTogether() {
        int[] places = {1, 10, 100, 1000};
        for (int place : places) {
            for (int one = 0; one < 10; one++) {
                for (int other = 0; other < 10; other++) {
                    int rest = 9999 - 9 * place;
                    VaseCourt x = sherds(0, one * place, rest + other * place, 0);
                    due("29 digits " + one + ", " + other, x.joined(0, 1), one + other == 9 ? 1 : 0);
                }
            }
        }
        // 9999 - 1 = 9998 by a digit that carries nothing; 18 in one place and 8 in the next are not 99.
        due("29 no carrying", sherds(0, 9, 9989, 0).joined(0, 1), 0);
        due("29 the right edge of the first alone", sherds(1234, 4321, 8765, 5678).joined(0, 1), 0);
        due("29 and the left edge of the second alone", sherds(8765, 4321, 5678, 1234).joined(0, 1), 1);
        due("29 not the other way round", sherds(8764, 4321, 5678, 1234).joined(1, 0), 0);
    }

    /** "at most SLACK (0 .. 4; 0 at first) digits". */
    private static void slackIsFrom0To4() {
        int[] lefts = {9999, 9998, 9988, 9888, 8888, 9989, 8999, 8998};
        int[] unlike = {0, 1, 2, 3, 4, 1, 1, 2};
        for (int k = 0; k < lefts.length; k++) {
            VaseCourt x = sherds(0, 0, lefts[k], 0);
            due("29 slack 0 at first", x.joined(0, 1), unlike[k] == 0 ? 1 : 0);
            int was = 0;
            for (int slack = 4; slack >= 0; slack--) {
                due("28 slack was", x.set(0, slack), was);
                due("29 " + unlike[k] + " unlike, slack " + slack, x.joined(0, 1), unlike[k] <= slack ? 1 : 0);
                was = slack;
            }
            due("28 slack 5", x.set(0, 5), BAD);
            due("28 slack -1", x.set(0, -1), BAD);
            due("28 it has stayed", x.set(0, 1), 0);
        }
    }

    private static void noSherdsNoRow() {
        rowIs(new VaseCourt(0), "");
    }

    private static void theRowOfOneAndOfEight() {
        rowIs(sherds(0, 0), "0");
        rowIs(sherds(0, 9999), "0");
        VaseCourt x = sherds(6666, 2222, 7777, 1111, 8888, 0, 1111, 7777, 5555, 3333, 3333, 5555, 2222, 6666, 4444, 4444);
        // Right 7777 goes to left 2222, right 6666 to 3333, right 5555 to 4444, right 4444 to 5555, and so on.
        rowIs(x, "36574012");
        VaseCourt y = new VaseCourt(0);
        y.set(0, 4);
        for (int k = 0; k < 8; k++) {
            y.sherd(k, k);
            rowIs(y, "01234567".substring(0, k + 1));
        }
    }

    /** "SHERDS, each once at most": a ring, and one that would fit itself. */
    private static void eachSherdOnceAtMost() {
        rowIs(sherds(1111, 7777, 2222, 6666, 3333, 8888), "012");
        rowIs(sherds(2222, 6666, 3333, 8888, 1111, 7777), "012");
        rowIs(sherds(3333, 6666, 0, 0), "0");
        rowIs(sherds(0, 0, 3333, 6666, 3333, 8888), "12");
    }

    /** "as many as can be". */
    private static void theRowIsAsLongAsCanBe() {
        // 0 can go on with 1, that ends there, or with 2 and 3.
        rowIs(sherds(1, 1111, 8888, 5, 8888, 2222, 7777, 5), "023");
        // The longer row begins with the greatest sherd.
        rowIs(sherds(1, 1111, 8888, 5, 5555, 3333, 6666, 2222, 7777, 5, 9, 4444), "5234");
    }

    /** "of like ones the least first, then the second one, and so on". */
    private static void ofLikeRowsTheLeast() {
        rowIs(sherds(1111, 2222, 3333, 4444), "0");
        rowIs(sherds(0, 1, 5555, 4444, 0, 4444), "21");
        // 10, 20: the least first; 12, 13: the second.
        rowIs(sherds(7777, 5, 1, 2222, 2, 2222), "10");
        rowIs(sherds(5, 5, 1, 2222, 7777, 5, 7777, 5), "12");
        // 0 1 3, 0 2 3, 0 1 4: the third.
        rowIs(sherds(1, 1111, 8888, 2222, 8888, 2222, 7777, 5, 7777, 5), "013");
        // Of two rows, 0 4 5 and 1 2 3, the first ones tell, not the later ones.
        rowIs(sherds(4, 1111, 4, 2222, 7777, 3333, 6666, 5, 8888, 4444, 5555, 5), "045");
    }

    /** What is told or set later is looked at. */
    private static void theRowIsNotKept() {
        VaseCourt x = sherds(0, 9999, 1, 5);
        rowIs(x, "0");
        x.set(0, 1);
        rowIs(x, "01");
        x.set(0, 0);
        rowIs(x, "0");
        x.sherd(0, 5);
        rowIs(x, "02");
    }

    /** "RECORDS (10 at most, numbered from 0)". */
    private static void recordsAreTenAtMost() {
        VaseCourt x = new VaseCourt(0);
        for (int k = 0; k < 9; k++) due("31 record " + k, x.record(0, 7), k);
        due("31 the last record there may be", x.record(4, 1023), 9);
        due("31 one too many", x.record(0, 7), FULL);
        due("32 the last is there", x.same(9, 0, 1), 1);
        due("32 behind the last", x.same(10, 0, 1), BAD);
        due("33 two things", x.things(-1), 2);
        due("31 records", x.count(7), 10);
    }

    /** "MARKS: 10 bits"; "AT ODDS if one mark that is known of both is unlike". */
    private static void marksAreTenBits() {
        for (int bit = 0; bit < 10; bit++) {
            VaseCourt x = new VaseCourt(0);
            x.record(1023, 1023);
            x.record(1023 & ~(1 << bit), 1023);
            x.record(1023, 1023 & ~(1 << bit));
            x.record(0, 1 << bit);
            due("32 one mark unlike", x.same(0, 1, 1), 1);
            due("32 either way round", x.same(1, 0, 1), 1);
            due("32 no match", x.same(0, 1, 0), 0);
            due("32 unlike where one does not know", x.same(1, 2, 1), 0);
            due("32 they match", x.same(1, 2, 0), 1);
            due("32 none known of both", x.same(2, 3, 1), 0);
            due("32 not enough", x.same(2, 3, 0), 0);
            due("32 the one known mark is unlike", x.same(0, 3, 1), 1);
            due("32 the one known mark is like", x.same(1, 3, 1), 0);
        }
    }

    /** "(Marks that aren't known count as 0.)" */
    private static void marksThatAreNotKnown() {
        VaseCourt x = new VaseCourt(0);
        x.record(1023, 7);
        x.record(7, 1023);
        x.record(1023, 0);
        x.record(0, 0);
        due("32 no odds by unknown ones", x.same(0, 1, 1), 0);
        due("32 a match by three", x.same(0, 1, 0), 1);
        due("32 none known", x.same(1, 2, 1), 0);
        due("32 none known of either", x.same(2, 3, 1), 0);
        due("32 no match without any", x.same(2, 3, 0), 0);
    }

    /** "ENOUGH marks (1 .. 10; 3 at first) are known of both". */
    private static void enoughIsFrom1To10() {
        for (int known = 0; known <= 10; known++) {
            VaseCourt x = new VaseCourt(0);
            x.record(0, (1 << known) - 1);
            x.record(0, 1023);
            due("32 three at first", x.same(0, 1, 0), known >= 3 ? 1 : 0);
            int was = 3;
            for (int enough = 10; enough >= 1; enough--) {
                due("28 enough was", x.set(1, enough), was);
                int match = known >= enough ? 1 : 0;
                due("32 " + known + " known, enough " + enough, x.same(0, 1, 0), match);
                due("32 one thing", x.same(0, 1, 2), match);
                due("33 things", x.things(-1), 2 - match);
                due("32 itself", x.same(0, 0, 0), match);
                was = enough;
            }
            due("28 enough 0", x.set(1, 0), BAD);
            due("28 enough 11", x.set(1, 11), BAD);
            due("28 it has stayed", x.set(1, 2), 1);
        }
    }

    /** "(One and itself: MATCHES if ENOUGH are known; it is ONE THING.)" */
    private static void oneAndItself() {
        VaseCourt x = new VaseCourt(0);
        x.record(1023, 1023);
        x.record(7, 7);
        x.record(3, 3);
        x.record(1023, 0);
        for (int k = 0; k < 4; k++) {
            due("32 matches itself", x.same(k, k, 0), k < 2 ? 1 : 0);
            due("32 is not at odds with itself", x.same(k, k, 1), 0);
            due("32 is one thing", x.same(k, k, 2), 1);
        }
    }

    /** Ten records in a row, the marks of each known of the one ahead and the one behind it alone. */
    private static VaseCourt chain(int[] order, int marks) {
        VaseCourt x = new VaseCourt(0);
        x.set(1, 1);
        for (int k : order) x.record(k == 0 ? marks : 0, k == 0 ? 513 : 1 << k | 1 << k - 1);
        return x;
    }

    /** "ONE THING are RECORDS that MATCH, one after the other": in whatever order they were told. */
    private static void oneThingOneAfterTheOther() {
        int[][] orders = {{0, 1, 2, 3, 4, 5, 6, 7, 8, 9}, {9, 8, 7, 6, 5, 4, 3, 2, 1, 0},
            {0, 2, 4, 6, 8, 1, 3, 5, 7, 9}, {5, 0, 9, 1, 8, 2, 7, 3, 6, 4}};
        for (int[] order : orders) {
            // With mark 9 the first is at odds with the last, so that the chain is no ring.
            VaseCourt x = chain(order, 512);
            due("33 one thing", x.things(-1), 1);
            due("33 a copy", x.things(-2), 1);
            for (int a = 0; a < 10; a++) for (int b = 0; b < 10; b++) due("32 one thing", x.same(a, b, 2), 1);
            VaseCourt ring = chain(order, 0);
            due("33 one thing", ring.things(-1), 1);
            due("33 no copy", ring.things(-2), 0);
            VaseCourt cut = chain(order, 513);
            // Mark 0 is unlike, too: the first is a thing by itself.
            due("33 two things", cut.things(-1), 2);
            due("33 at odds, but two things", cut.things(-2), 0);
            due("33 all by themselves", setEnough(cut, 2).things(-1), 10);
        }
    }

    private static VaseCourt setEnough(VaseCourt x, int n) {
        x.set(1, n);
        return x;
    }

    private static void thingsOfNoneOfAll() {
        VaseCourt x = new VaseCourt(0);
        due("33 no records", x.things(-1), 0);
        due("33 no copies", x.things(-2), 0);
        for (int k = 0; k < 10; k++) {
            x.record(0, 0);
            due("33 each by itself", x.things(-1), k + 1);
            due("33 no copies", x.things(-2), 0);
        }
        VaseCourt y = new VaseCourt(0);
        for (int k = 0; k < 10; k++) {
            y.record(1023, 1023);
            due("33 all one", y.things(-1), 1);
        }
        for (int i : new int[] {0, 1, -3, MIN, MAX}) due("33 else", y.things(i), BAD);
    }

    /** "A COPY is told in such a one, if two of its RECORDS are AT ODDS": five things with one each, at most. */
    private static void aCopyIsOfOneThing() {
        VaseCourt x = new VaseCourt(0);
        x.set(1, 1);
        for (int k = 0; k < 3; k++) {
            int here = 7 << 3 * k;
            due("31 one mark known", x.record(1 << 3 * k, 3 << 3 * k), 3 * k);
            due("33 no copy of it yet", x.things(-2), k);
            x.record(0, 5 << 3 * k & ~(1 << 3 * k) | 2 << 3 * k);
            due("33 a second one that matches it", x.things(-1), k + 1);
            due("33 no copy of it yet", x.things(-2), k);
            x.record(0, here & ~(2 << 3 * k));
            due("33 a third one, at odds with the first", x.things(-1), k + 1);
            due("33 a copy", x.things(-2), k + 1);
        }
        due("32 at odds", x.same(0, 2, 1), 1);
        due("32 in one thing", x.same(0, 2, 2), 1);
    }

    private static void countsOfFullAndEmpty() {
        VaseCourt x = Setups.full();
        int[] counts = {12, 20, 16, x.forge(3, 1), 20, 12, 8, 10, 6, 160, 31};
        for (int what = 0; what <= 10; what++) due("34 count of full " + what, x.count(what), counts[what]);
        VaseCourt y = new VaseCourt(0);
        y.soil(0);
        due("34 no soil", y.count(10), 0);
        for (int what : new int[] {-1, 11, MIN, MAX}) due("34 no such", y.count(what), BAD);
    }

    // ---- sheets

    /** "SHEETS 0 .. 3 are rows of numbers, or missing (as all are at first)". */
    private static void sheetsAreMissingAtFirst() {
        VaseCourt x = new VaseCourt(0);
        for (int sheet = 0; sheet < 4; sheet++) {
            due("36 missing", x.cell(sheet, 0, 0), NOTHING);
            due("35 a row", x.sheet(sheet, 2, 1), 1);
            due("36 there", x.cell(sheet, 0, 0), 1);
            due("35 missing again", x.sheet(sheet, -1, 1), 1);
            due("36 missing", x.cell(sheet, 0, 0), NOTHING);
            due("35 missing, though missing", x.sheet(sheet, -1, 1), 1);
        }
        for (int sheet : new int[] {-1, 4}) due("35 no such sheet", x.sheet(sheet, 2, 1), BAD);
    }

    /** "n above 40"; a row of none. */
    private static void sheetsHaveFortyItemsAtMost() {
        for (int sort = 0; sort < 3; sort++) {
            for (int n : new int[] {0, 1, 39, 40}) {
                VaseCourt x = new VaseCourt(0);
                due("35 a row of " + n, x.sheet(3, sort, n), 1);
                due("36 the last", x.cell(3, n - 1, 1), n == 0 ? OUTSIDE : 1);
                due("36 behind the last", x.cell(3, n, 1), OUTSIDE);
                due("36 ahead of the first", x.cell(3, -1, 1), OUTSIDE);
            }
        }
    }

    /** "A SHEET becomes a row of n of a sort, all 0": whatever stood there. */
    private static void aSheetIsMadeAnew() {
        for (int lost = 0; lost < 2; lost++) {
            VaseCourt x = new VaseCourt(0);
            x.sheet(1, 2, 10);
            for (int i = 0; i < 10; i++) x.cell(1, i, 6);
            due("38 nothing but wrong ones", x.papers(1, 2, 0, 2), 0);
            if (lost == 1) x.sheet(1, -1, 0);
            x.sheet(1, 0, 5);
            due("38 its sort is another", x.papers(1, 2, 0, 1), OTHER_SORT);
            due("38 all 0", x.papers(1, 0, 0, 1), 1);
            due("36 its size is another", x.cell(1, 5, 0), OUTSIDE);
            x.sheet(1, 2, 10);
            due("38 all 0", x.papers(1, 2, 0, 2), 2);
        }
    }

    /** A number is read by the paper that comes of it: as a land of 0 .. 4, or as what it leans on. */
    private static void cellIs(int sort, int v, int papers, int leans) {
        VaseCourt x = new VaseCourt(0);
        for (int k = 0; k < papers; k++) x.paper(0, 0, 0, 0, 0);
        x.sheet(0, sort, 5);
        due("36 cell becomes " + v, x.cell(0, 4, v), 1);
        due("38 sort " + sort + " of " + v, x.papers(0, sort, 0, 1), leans >= 0 ? 1 : 0);
        due("5 leans", x.paperTold(papers, 4), leans >= 0 ? leans : BAD);
    }

    /** "(of bytes, shorts its lowest 8, 16 bits)". */
    private static void cellsKeepTheirLowestBits() {
        int[] numbers = {0, 1, 127, 256, 257, 511, 32767, 65536, 65537, 1 << 30, MIN, MAX, -1, -128, -256, -65535, -65536};
        for (int v : numbers) {
            int lowest8 = (v & 255) < 128 ? v & 255 : -1;
            cellIs(0, v, 8, lowest8);
            int lowest16 = (v & 65535) < 32768 ? v & 65535 : -1;
            cellIs(1, v, 15, lowest16);
            cellIs(2, v, 15, v >= 0 && v < 32768 ? v : -1);
        }
    }

    private static void putAll(VaseCourt x, int sheet, int... numbers) {
        x.sheet(sheet, 2, numbers.length);
        for (int i = 0; i < numbers.length; i++) x.cell(sheet, i, numbers[i]);
    }

    private static void paperIs(VaseCourt x, int sheet, int from, int... numbers) {
        int paper = x.count(2);
        due("38 a paper comes", x.papers(sheet, 2, from, 1), 1);
        for (int what = 0; what < 5; what++) due("38 its number " + what, x.paperTold(paper, what), numbers[what]);
    }

    /** "n numbers (0 or more) of a SHEET ... come to another one's ... (as they were)". */
    private static void copiesAsTheyWere() {
        VaseCourt x = new VaseCourt(3);
        // So that any number up to 7 is one on which a paper may lean.
        for (int k = 0; k < 3; k++) x.paper(0, 0, 0, 0, 0);
        putAll(x, 0, 1, 2, 3, 4, 0, 0);
        putAll(x, 1, 0, 0, 0, 0, 0, 0, 0);
        due("37 to another one", x.copy(0, 0, 1, 2, 4), 4);
        paperIs(x, 1, 0, 0, 0, 1, 2, 3);
        paperIs(x, 1, 2, 1, 2, 3, 4, 0);
        paperIs(x, 0, 0, 1, 2, 3, 4, 0);
        putAll(x, 2, 1, 2, 3, 4, 0, 0, 0);
        due("37 ahead on itself", x.copy(2, 0, 2, 1, 4), 4);
        paperIs(x, 2, 0, 1, 1, 2, 3, 4);
        putAll(x, 2, 0, 1, 2, 3, 4, 0, 0);
        due("37 back on itself", x.copy(2, 1, 2, 0, 4), 4);
        paperIs(x, 2, 0, 1, 2, 3, 4, 4);
        putAll(x, 3, 1, 2, 3, 4, 5);
        due("37 on itself in its place", x.copy(3, 0, 3, 0, 5), 5);
        paperIs(x, 3, 0, 1, 2, 3, 4, 5);
    }

    private static void copiesOfAllAndNone() {
        VaseCourt x = new VaseCourt(0);
        for (int sort = 0; sort < 3; sort++) {
            x.sheet(0, sort, 40);
            x.sheet(1, sort, 40);
            x.sheet(2, sort, 0);
            due("37 all", x.copy(0, 0, 1, 0, 40), 40);
            due("37 one more", x.copy(0, 0, 1, 0, 41), OUTSIDE);
            due("37 the last", x.copy(0, 39, 1, 39, 1), 1);
            due("37 the last to behind it", x.copy(0, 39, 1, 40, 1), OUTSIDE);
            due("37 from behind the last", x.copy(0, 40, 1, 39, 1), OUTSIDE);
            due("37 none at the ends", x.copy(0, 40, 1, 40, 0), 0);
            due("37 none behind the ends", x.copy(0, 41, 1, 40, 0), OUTSIDE);
            due("37 none behind the ends", x.copy(0, 40, 1, 41, 0), OUTSIDE);
            due("37 none of none", x.copy(2, 0, 2, 0, 0), 0);
            due("37 one of none", x.copy(2, 0, 2, 0, 1), OUTSIDE);
            due("37 below 0", x.copy(0, 0, 1, 0, -1), OUTSIDE);
            due("37 the greatest", x.copy(0, 1, 1, 1, MAX), OUTSIDE);
            due("37 all of these", x.copy(0, MAX, 1, MAX, MAX), OUTSIDE);
            due("37 all of these", x.copy(0, MIN, 1, MIN, MIN), OUTSIDE);
        }
    }

    /** "n of them (0 .. 8)". */
    private static void papersAreEightAtOnceAtMost() {
        for (int sort = 0; sort < 3; sort++) {
            VaseCourt x = new VaseCourt(0);
            x.sheet(0, sort, 40);
            due("38 nine", x.papers(0, sort, 0, 9), BAD);
            due("38 below 0", x.papers(0, sort, 0, -1), BAD);
            due("38 none", x.papers(0, sort, 0, 0), 0);
            due("38 none came", x.count(2), 0);
            due("38 eight, to the last item", x.papers(0, sort, 0, 8), 8);
            due("38 one, to the last item", x.papers(0, sort, 35, 1), 1);
            due("38 papers", x.count(2), 9);
            due("38 one item too few", x.papers(0, sort, 36, 1), OUTSIDE);
            due("38 seven, to the last item", x.papers(0, sort, 5, 7), 7);
            due("38 papers", x.count(2), 16);
            due("38 none more has room", x.papers(0, sort, 0, 8), 0);
        }
    }

    /** "how many came (others are left out)". */
    private static void papersThatDoNotComeAreLeftOut() {
        VaseCourt x = new VaseCourt(0);
        x.sheet(0, 2, 40);
        int[][] wrong = {{0, 6}, {1, 5}, {2, -1}, {3, 2}, {4, 4}};
        // Of eight the second, and all from the fourth on, are wrong in one number each, but for the last.
        for (int k = 0; k < 5; k++) x.cell(0, 5 * (k == 0 ? 1 : k + 2) + wrong[k][0], wrong[k][1]);
        x.cell(0, 10 + 1, 3);
        x.cell(0, 35 + 4, 3);
        due("38 three come", x.papers(0, 2, 0, 8), 3);
        due("38 papers", x.count(2), 3);
        due("5 the third of the sheet is paper 1", x.paperTold(1, 1), 3);
        due("5 the last of the sheet is paper 2", x.paperTold(2, 4), 3);
        due("38 the wrong ones again", x.papers(0, 2, 15, 3), 0);
        due("38 what leans on paper 2 comes now", x.papers(0, 2, 30, 1), 1);
    }

    /** "-12: what stood ahead came". */
    private static void whatStoodAheadCame() {
        for (int size = 0; size <= 40; size++) {
            VaseCourt x = new VaseCourt(0);
            x.sheet(0, 0, size);
            int whole = size / 5;
            due("38 all eight of " + size, x.papers(0, 0, 0, 8), whole == 8 ? 8 : OUTSIDE);
            due("38 what stood ahead came", x.count(2), whole);
        }
        VaseCourt x = new VaseCourt(0);
        x.sheet(0, 0, 12);
        x.cell(0, 2, 5);
        due("38 outside", x.papers(0, 0, -1, 2), OUTSIDE);
        due("38 outside", x.papers(0, 0, -5, 2), OUTSIDE);
        due("38 outside", x.papers(0, 0, 12, 1), OUTSIDE);
        due("38 outside", x.papers(0, 0, MAX, 8), OUTSIDE);
        due("38 outside", x.papers(0, 0, MIN, 8), OUTSIDE);
        due("38 nothing came", x.count(2), 0);
        due("38 one is left out, one came, the third is outside", x.papers(0, 0, 0, 3), OUTSIDE);
        due("38 one came", x.count(2), 1);
        due("5 the second one", x.paperTold(0, 2), 0);
    }

    /** "five by five (as of paper())": a later one may lean on one ahead of it. */
    private static void papersLeanOnThoseOfTheSameCall() {
        VaseCourt x = new VaseCourt(0);
        x.sheet(0, 1, 40);
        for (int k = 0; k < 8; k++) x.cell(0, 5 * k + 4, (1 << k) - 1);
        due("38 eight", x.papers(0, 1, 0, 8), 8);
        for (int k = 0; k < 8; k++) due("5 leans on all ahead", x.paperTold(k, 4), (1 << k) - 1);
        due("8 all fall with the first", x.fall(0), 255);
        due("8 the last alone", x.fall(7), 128);
    }
}
