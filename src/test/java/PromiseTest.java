/** Each promise of the document by hand: ordinary inputs, the edges that it names, and wrong inputs. */
public final class PromiseTest {
    private static final int NONE = -1, BAD = -2, FULL = -4;
    private static final int NOTHING = -11, OUTSIDE = -12, OTHER_SORT = -13, BELOW_ZERO = -14;
    private static final long NO = -4611686018427387904L;
    private static final int MIN = Integer.MIN_VALUE, MAX = Integer.MAX_VALUE;
    private static final Due DUE = new Due();

    public static void main(String[] args) {
        p01NewObject();
        p02Way();
        p03Soil();
        p04Paper();
        p05PaperTold();
        p06Allows();
        p07Forge();
        p08Fall();
        p09Histories();
        p10At();
        p11Both();
        p12History();
        p13Feed();
        p14Text();
        p14Faults();
        p14Depth();
        p15Law();
        p16LawOf();
        p17Says();
        p17Values();
        p18Given();
        p19Claim();
        p20Judge();
        p21Judged();
        p22Changed();
        p23Worst();
        p24Question();
        p25WorstOfTwo();
        p26FirstOfTwo();
        p27Sherd();
        p28Set();
        p29Joined();
        p30Row();
        p31Record();
        p32Same();
        p33Things();
        p34Count();
        p35Sheet();
        p36Cell();
        p37Copy();
        p38Papers();
        p39Taken();
        DUE.end();
    }

    private static void due(String call, long got, long want) {
        DUE.is(call, got, want);
    }

    private static void p01NewObject() {
        int[] numbers = {0, 1, 10, 11, 12, -1, -11, -12, MAX, MIN};
        int[] periods = {2, 3, 12, 2, 3, 12, 2, 12, 2 + MAX % 11, 2 + 11 + MIN % 11};
        for (int k = 0; k < numbers.length; k++) {
            due("1 count(0) of " + numbers[k], new VaseCourt(numbers[k]).count(0), periods[k]);
        }
        VaseCourt x = new VaseCourt(0);
        int[] counts = {2, 0, 0, 0, 0, 0, 0, 0, 1, 0, 31};
        for (int what = 0; what < counts.length; what++) due("1 count " + what, x.count(what), counts[what]);
        due("1 STATE", VaseCourt.STATE, -3);
    }

    private static void p02Way() {
        VaseCourt x = new VaseCourt(2);
        due("2 way a", x.way(-1, 0, 0, 0), BAD);
        due("2 way a", x.way(5, 0, 0, 0), BAD);
        due("2 way b", x.way(0, -1, 0, 0), BAD);
        due("2 way b", x.way(0, 5, 0, 0), BAD);
        due("2 way alike", x.way(3, 3, 0, 0), BAD);
        due("2 way from", x.way(0, 1, -1, 0), BAD);
        due("2 way to below from", x.way(0, 1, 2, 1), BAD);
        due("2 way to t - 1", x.way(0, 1, 0, 3), BAD);
        due("2 way from t - 1", x.way(0, 1, 3, 3), BAD);
        due("2 way extremes", x.way(MIN, MAX, MIN, MAX), BAD);
        due("2 nothing came", x.count(1), 0);
        for (int k = 0; k < 20; k++) due("2 way " + k, x.way(0, 4, 0, 2), k);
        due("2 way full", x.way(0, 4, 0, 2), FULL);
        due("2 BAD is named ahead of FULL", x.way(0, 0, 0, 2), BAD);
        due("2 ways", x.count(1), 20);
        due("2 twenty like ways are one move", x.histories(), 5 + 3);
    }

    private static void p03Soil() {
        VaseCourt x = new VaseCourt(1);
        due("3 soil -1", x.soil(-1), BAD);
        due("3 soil 32", x.soil(32), BAD);
        due("3 soil 5", x.soil(5), 31);
        due("3 histories", x.histories(), 2);
        due("3 at 1", x.at(1, 0), 0);
        due("3 soil binds period 0 alone", x.way(0, 1, 0, 0), 0);
        due("3 at 1, 1", x.at(1, 1), 1);
        due("3 soil 0", x.soil(0), 5);
        due("3 soil 31", x.soil(31), 0);
        due("3 soil 32", x.soil(32), BAD);
        due("3 soil", x.count(10), 31);
    }

    private static void p04Paper() {
        VaseCourt x = new VaseCourt(1);
        due("4 kind -1", x.paper(-1, 0, 0, 0, 0), BAD);
        due("4 kind 6", x.paper(6, 0, 0, 0, 0), BAD);
        due("4 a", x.paper(0, 5, 0, 0, 0), BAD);
        due("4 a", x.paper(0, -1, 0, 0, 0), BAD);
        due("4 b", x.paper(0, 0, 5, 0, 0), BAD);
        due("4 b", x.paper(0, 0, -1, 0, 0), BAD);
        due("4 period", x.paper(0, 0, 0, 3, 0), BAD);
        due("4 period", x.paper(0, 0, 0, -1, 0), BAD);
        due("4 leans on itself", x.paper(0, 0, 0, 0, 1), BAD);
        due("4 leans -1", x.paper(0, 0, 0, 0, -1), BAD);
        due("4 leans least", x.paper(0, 0, 0, 0, MIN), BAD);
        due("4 paper", x.paper(0, 0, 0, 2, 0), 0);
        for (int k = 1; k < 16; k++) due("4 paper " + k, x.paper(k % 6, 0, 1, 0, (1 << k) - 1), k);
        due("4 full", x.paper(0, 0, 0, 0, 65535), FULL);
        due("4 BAD ahead of FULL", x.paper(0, 0, 0, 0, 65536), BAD);
        due("4 papers", x.count(2), 16);
    }

    private static void p05PaperTold() {
        VaseCourt x = new VaseCourt(9);
        x.paper(0, 1, 2, 3, 0);
        x.paper(3, 4, 2, 10, 1);
        int[] told = {3, 4, 2, 10, 1, 0, 1};
        for (int what = 0; what < 7; what++) due("5 told " + what, x.paperTold(1, what), told[what]);
        x.forge(0, 1);
        due("5 forged", x.paperTold(0, 5), 1);
        due("5 stands", x.paperTold(0, 6), 0);
        due("5 is not forged itself", x.paperTold(1, 5), 0);
        due("5 falls with it", x.paperTold(1, 6), 0);
        due("5 what -1", x.paperTold(0, -1), BAD);
        due("5 what 7", x.paperTold(0, 7), BAD);
        due("5 paper 2", x.paperTold(2, 0), BAD);
        due("5 paper -1", x.paperTold(-1, 0), BAD);
    }

    private static void allowsRow(VaseCourt x, int paper, String rows) {
        String[] byPeriod = rows.split(" ");
        for (int period = 0; period < byPeriod.length; period++) {
            for (int land = 0; land < 5; land++) {
                due("6 allows " + paper + ", " + land + ", " + period, x.allows(paper, land, period),
                        byPeriod[period].charAt(land) - '0');
            }
        }
    }

    private static void p06Allows() {
        VaseCourt x = new VaseCourt(4);
        for (int kind = 0; kind < 6; kind++) x.paper(kind, 1, 3, 2, 0);
        allowsRow(x, 0, "11111 11111 01000 11111 11111 11111");
        allowsRow(x, 1, "11111 11111 01000 01010 11111 11111");
        allowsRow(x, 2, "10111 10111 01000 11111 11111 11111");
        allowsRow(x, 3, "11101 11101 01000 01010 11111 11111");
        allowsRow(x, 4, "10111 10111 01000 01000 01000 11111");
        allowsRow(x, 5, "11111 11111 10111 11111 11111 11111");
        x.paper(4, 0, 0, 5, 0);
        allowsRow(x, 6, "01111 01111 01111 01111 01111 10000");
        x.paper(3, 2, 2, 0, 0);
        allowsRow(x, 7, "00100 00100 11111 11111 11111 11111");
        x.forge(0, 1);
        due("6 forged ones allow as ever", x.allows(0, 1, 2), 1);
        due("6 forged ones allow as ever", x.allows(0, 2, 2), 0);
        due("6 paper", x.allows(8, 0, 0), BAD);
        due("6 paper", x.allows(-1, 0, 0), BAD);
        due("6 land", x.allows(0, 5, 0), BAD);
        due("6 land", x.allows(0, -1, 0), BAD);
        due("6 period", x.allows(0, 0, 6), BAD);
        due("6 period", x.allows(0, 0, -1), BAD);
    }

    private static void p07Forge() {
        VaseCourt x = new VaseCourt(0);
        x.paper(0, 0, 0, 0, 0);
        x.paper(0, 0, 0, 0, 0);
        x.paper(0, 0, 0, 0, 1);
        x.paper(0, 0, 0, 0, 6);
        due("7 forge 1", x.forge(1, 1), 2);
        due("7 forge 1 again", x.forge(1, 1), 2);
        due("7 forge 0", x.forge(0, 1), 0);
        due("7 forge 1 not", x.forge(1, 0), 1);
        due("7 forge 0 not", x.forge(0, 0), 4);
        due("7 forge 3", x.forge(3, 1), 3);
        due("7 is 2", x.forge(0, 2), BAD);
        due("7 is -1", x.forge(0, -1), BAD);
        due("7 paper 4", x.forge(4, 1), BAD);
        due("7 paper -1", x.forge(-1, 1), BAD);
        due("7 a paper that leans on a forged one", x.paper(0, 0, 0, 0, 8), 4);
        due("7 does not stand", x.count(3), 3);
    }

    private static void p08Fall() {
        VaseCourt x = new VaseCourt(0);
        x.paper(0, 0, 0, 0, 0);
        x.paper(0, 0, 0, 0, 1);
        x.paper(0, 0, 0, 0, 0);
        x.paper(0, 0, 0, 0, 6);
        due("8 fall 0", x.fall(0), 11);
        due("8 fall 1", x.fall(1), 10);
        due("8 fall 2", x.fall(2), 12);
        due("8 fall 3", x.fall(3), 8);
        x.forge(1, 1);
        due("8 who fell already does not fall", x.fall(0), 1);
        due("8 a forged one does not stand", x.fall(1), 0);
        due("8 just itself", x.fall(2), 4);
        due("8 fell with another", x.fall(3), 0);
        due("8 nothing was forged by it", x.count(3), 2);
        due("8 paper 4", x.fall(4), BAD);
        due("8 paper -1", x.fall(-1), BAD);
    }

    private static VaseCourt openAll(int number) {
        VaseCourt x = new VaseCourt(number);
        int last = x.count(0) - 2;
        for (int a = 0; a < 5; a++) {
            for (int b = 0; b < 5; b++) {
                if (a != b) x.way(a, b, 0, last);
            }
        }
        return x;
    }

    private static void p09Histories() {
        due("9 no ways", new VaseCourt(10).histories(), 5);
        VaseCourt x = openAll(10);
        due("9 all ways", x.histories(), 244140625L);
        x.paper(0, 2, 0, 5, 0);
        due("9 a photo", x.histories(), 48828125L);
        x.paper(5, 2, 0, 5, 0);
        due("9 two that are at odds", x.histories(), 0);
        x.forge(0, 1);
        due("9 the rumour alone", x.histories(), 195312500L);
        x.soil(0);
        due("9 no soil", x.histories(), 0);
        VaseCourt y = new VaseCourt(1);
        y.way(0, 1, 1, 1);
        due("9 open later", y.histories(), 6);
        y.way(1, 2, 0, 0);
        due("9 open too early", y.histories(), 7);
    }

    private static void p10At() {
        VaseCourt x = openAll(10);
        due("10 at", x.at(3, 11), 48828125L);
        due("10 at", x.at(0, 0), 48828125L);
        x.paper(0, 3, 0, 11, 0);
        due("10 at what is told", x.at(3, 11), 48828125L);
        due("10 at another", x.at(2, 11), 0);
        due("10 at ahead", x.at(2, 4), 9765625L);
        due("10 land", x.at(5, 0), NO);
        due("10 land", x.at(-1, 0), NO);
        due("10 period", x.at(0, 12), NO);
        due("10 period", x.at(0, -1), NO);
    }

    private static void p11Both() {
        VaseCourt x = openAll(10);
        due("11 both", x.both(3, 11, 2, 0), 9765625L);
        due("11 both, other order", x.both(2, 0, 3, 11), 9765625L);
        due("11 one and itself", x.both(2, 4, 2, 4), 48828125L);
        due("11 two lands at once", x.both(2, 4, 3, 4), 0);
        x.paper(5, 2, 0, 4, 0);
        due("11 none there", x.both(2, 4, 2, 4), 0);
        due("11 none there", x.both(2, 4, 1, 9), 0);
        due("11 land", x.both(5, 0, 0, 0), NO);
        due("11 period", x.both(0, 12, 0, 0), NO);
        due("11 other", x.both(0, 0, -1, 0), NO);
        due("11 second", x.both(0, 0, 0, -1), NO);
        VaseCourt y = new VaseCourt(1);
        y.way(0, 1, 0, 1);
        y.way(1, 2, 0, 1);
        due("11 through the middle", y.both(0, 0, 2, 2), 1);
        due("11 back in time", y.both(2, 2, 0, 0), 1);
        due("11 two ways to 1", y.both(0, 0, 1, 2), 2);
    }

    private static void p12History() {
        VaseCourt x = new VaseCourt(1);
        x.way(2, 0, 0, 1);
        String[] rows = {"000", "111", "200", "220", "222", "333", "444"};
        for (int i = 0; i < rows.length; i++) {
            for (int p = 0; p < 3; p++) due("12 history " + i + ", " + p, x.history(i, p), rows[i].charAt(p) - '0');
        }
        due("12 not so many", x.history(7, 0), NONE);
        due("12 i -1", x.history(-1, 0), BAD);
        due("12 i 10000", x.history(10000, 0), BAD);
        due("12 i 9999", x.history(9999, 0), NONE);
        due("12 period -1", x.history(0, -1), BAD);
        due("12 period 3", x.history(0, 3), BAD);
        due("12 BAD ahead of NONE", x.history(9999, 3), BAD);
        VaseCourt y = openAll(10);
        String last = Integer.toString(9999, 5);
        for (int p = 0; p < 6; p++) due("12 history 9999 begins " + p, y.history(9999, p), 0);
        for (int p = 6; p < 12; p++) due("12 history 9999 ends " + p, y.history(9999, p), last.charAt(p - 6) - '0');
    }

    private static void p13Feed() {
        VaseCourt x = new VaseCourt(0);
        due("13 n 0", x.feed(0, 1), BAD);
        due("13 n 9", x.feed(9, 1), BAD);
        due("13 n -1", x.feed(-1, 1), BAD);
        due("13 n least", x.feed(MIN, 1), BAD);
        for (int k = 1; k <= 19; k++) due("13 feed " + k, x.feed(8, 0x2020202020202020L), 8 * k);
        due("13 feed 7", x.feed(7, 0), 159);
        due("13 two more", x.feed(2, 0), FULL);
        due("13 BAD ahead of FULL", x.feed(9, 0), BAD);
        due("13 one more", x.feed(1, 0), 160);
        due("13 full", x.feed(1, 0), FULL);
        due("13 bytes", x.count(9), 160);
        due("13 the lowest came first: blanks, then byte 0", x.text(), -100 - 152);
        due("13 higher bytes are left", x.feed(1, 0x6161616161616120L), 1);
        due("13 it was a blank", x.text(), -101);
    }

    private static void p14Text() {
        VaseCourt x = new VaseCourt(0);
        due("14 an empty tape", x.text(), -100);
        due("14 text 1", Due.textOf(x, "hold 1 ; limit 1 ;"), 1);
        due("14 the tape is empty", x.count(9), 0);
        due("14 a fault", Due.textOf(x, "hold 1 ; limit 1"), -116);
        due("14 the tape is empty by a fault", x.count(9), 0);
        due("14 no blanks", Due.textOf(x, "hold1;limit1;"), 2);
        due("14 many blanks", Due.textOf(x, "\n hold \n\n1 ;\nlimit 1;  \n "), 3);
        due("14 all signs", Due.textOf(x, "hold not(from+to-period*now<papers=open)or-1and 2;limit 9999;"), -134);
        due("14 all words", Due.textOf(x, "hold not(from+to-period*now<papers)or open=- 1and 2;limit 9999;"), 4);
        due("14 text 5", Due.textOf(x, "hold 0;limit 0;"), 5);
        due("14 texts", x.count(8), 6);
        due("14 full", Due.textOf(x, "hold 0"), FULL);
        due("14 the tape stays", x.count(9), 6);
    }

    private static void fault(String text, int place) {
        due("14 fault of " + text, Due.textOf(new VaseCourt(0), text), -100 - place);
    }

    private static void p14Faults() {
        fault("   ", 3);
        fault("hold", 4);
        fault("hold ;", 5);
        fault("limit 1 ; hold 1 ;", 0);
        fault("hold 1 limit 1 ;", 7);
        fault("hold 1 ; hold 1 ;", 9);
        fault("hold 1 ; limit 1 ; ;", 19);
        fault("hold 1 ; limit 1 ; hold", 19);
        fault("hold 1 ; limit 1 ; ?", 19);
        fault("hold 1 ; limit 1  ", 18);
        fault("hold 12345 ; limit 1 ;", 5);
        fault("hold 00001 ; limit 1 ;", 5);
        fault("hold 1 2 ; limit 1 ;", 7);
        fault("hold thing ; limit 1 ;", 5);
        fault("holdup ; limit 1 ;", 0);
        fault("hold fromto ; limit 1 ;", 5);
        fault("Hold 1 ; limit 1 ;", 0);
        fault("hold 1\t; limit 1 ;", 6);
        fault("hold 1 ; limit " + (char) 233 + " ;", 15);
        fault("hold 1 ; limit 1 ;" + (char) 0, 18);
        fault("hold 1 < 2 < 3 ; limit 1 ;", 11);
        fault("hold 1 = 2 < 3 ; limit 1 ;", 11);
        fault("hold 1 < not 2 ; limit 1 ;", 9);
        fault("hold 1 + not 2 ; limit 1 ;", 9);
        fault("hold - not 2 ; limit 1 ;", 7);
        fault("hold + 2 ; limit 1 ;", 5);
        fault("hold 1 + ; limit 1 ;", 9);
        fault("hold 1 * ) ; limit 1 ;", 9);
        fault("hold ( 1 ; limit 1 ;", 9);
        fault("hold 1 ) ; limit 1 ;", 7);
        fault("hold ( ) ; limit 1 ;", 7);
        fault("hold 1 or ; limit 1 ;", 10);
        fault("hold and 1 ; limit 1 ;", 5);
        fault("hold 1 and or 1 ; limit 1 ;", 11);
        fault("hold 1 ( 2 ) ; limit 1 ;", 7);
        fault("hold 1 not 2 ; limit 1 ;", 7);
        fault("hold hold ; limit 1 ;", 5);
        fault("hold 1 ;; limit 1 ;", 8);
        fault("hold 1 ; limit limit ;", 15);
    }

    private static void p14Depth() {
        VaseCourt x = new VaseCourt(0);
        due("14 five (", Due.textOf(x, "hold (((((1))))) ; limit 1 ;"), 1);
        due("14 five of each kind", Due.textOf(x, "hold not not ( - - 1 ) ; limit ( - ( not not 1 ) ) ;"), 2);
        due("14 closed ones are not open",
                Due.textOf(x, "hold (((((1)))))+(((((1)))))*-----1 < -----1 and not not not not not 1 ; limit 1 ;"), 3);
        due("14 not is open till its < ends", Due.textOf(x, "hold not not not not 1 < ((2)) ; limit 1 ;"), -126);
        due("14 not has ended", Due.textOf(x, "hold not not not not not 1 or ((2)) ; limit 1 ;"), 4);
        fault("hold ((((((1)))))) ; limit 1 ;", 10);
        fault("hold ------1 ; limit 1 ;", 10);
        fault("hold not not not not not not 1 ; limit 1 ;", 25);
        fault("hold not(not(-not 1)) ; limit 1 ;", 14);
        fault("hold not(not(-1)) ; limit not(not(-(-1))) ;", 35);
        fault("hold not not not not not -1 ; limit 1 ;", 25);
        fault("hold not not not not not (1) ; limit 1 ;", 25);
        fault("hold not not not not not 1 - -1 ; limit 1 ;", 29);
        due("14 a sign between is no -", Due.textOf(x, "hold not not not not not 1 - 1 ; limit 1 ;"), 5);
    }

    private static void p15Law() {
        VaseCourt x = new VaseCourt(1);
        due("15 land", x.law(5, 0, 0), BAD);
        due("15 land", x.law(-1, 0, 0), BAD);
        due("15 period", x.law(0, 3, 0), BAD);
        due("15 period", x.law(0, -1, 0), BAD);
        due("15 text", x.law(0, 0, 1), BAD);
        due("15 text", x.law(0, 0, -1), BAD);
        due("15 law of NOW", x.law(0, 2, 0), 0);
        for (int k = 1; k < 20; k++) due("15 law " + k, x.law(4, 0, 0), k);
        due("15 full", x.law(4, 0, 0), FULL);
        due("15 BAD ahead of FULL", x.law(4, 0, 6), BAD);
        due("15 laws", x.count(4), 20);
    }

    private static void p16LawOf() {
        VaseCourt x = new VaseCourt(3);
        for (int k = 1; k <= 5; k++) due("16 text", Due.textOf(x, "hold " + k + " ; limit 1 ;"), k);
        x.law(2, 3, 1);
        x.law(2, 1, 2);
        due("16 ahead of all", x.lawOf(2, 0), 0);
        due("16 from 1", x.lawOf(2, 1), 2);
        due("16 from 1", x.lawOf(2, 2), 2);
        due("16 from 3", x.lawOf(2, 3), 1);
        due("16 NOW", x.lawOf(2, 4), 1);
        due("16 another land", x.lawOf(3, 4), 0);
        x.law(2, 3, 4);
        due("16 of like ones the last", x.lawOf(2, 3), 4);
        x.law(2, 1, 5);
        due("16 a later first period still stands", x.lawOf(2, 4), 4);
        due("16 of like ones the last", x.lawOf(2, 2), 5);
        x.law(2, 3, 0);
        due("16 text 0 by a law", x.lawOf(2, 4), 0);
        due("16 land", x.lawOf(5, 0), BAD);
        due("16 land", x.lawOf(-1, 0), BAD);
        due("16 period", x.lawOf(0, 5), BAD);
        due("16 period", x.lawOf(0, -1), BAD);
    }

    private static void p17Says() {
        VaseCourt x = new VaseCourt(3);
        due("17 text 0, no way", x.says(0, 1, 0, 0), 0);
        due("17 text 0, limit", x.says(0, 1, 0, 1), 5);
        x.way(0, 1, 0, 1);
        x.way(0, 1, 1, 2);
        x.way(1, 0, 1, 2);
        x.way(0, 2, 1, 2);
        due("17 one way", x.says(0, 1, 0, 0), 1);
        due("17 two ways", x.says(0, 1, 1, 0), 2);
        due("17 none", x.says(0, 1, 3, 0), 0);
        x.paper(0, 0, 0, 0, 0);
        x.paper(0, 0, 0, 0, 0);
        x.paper(0, 0, 0, 0, 2);
        Due.textOf(x, "hold from * 1000 + to * 100 + period * 10 + now ; limit papers * 10 + open ;");
        x.law(0, 1, 1);
        x.law(3, 0, 1);
        due("17 names", x.says(3, 2, 1, 0), 3214);
        due("17 papers, open", x.says(0, 1, 1, 1), 32);
        x.forge(1, 1);
        due("17 papers that stand", x.says(0, 1, 1, 1), 12);
        due("17 the law of the first land in the period", x.says(0, 1, 0, 0), 1);
        due("17 the law of the first land", x.says(1, 0, 1, 0), 1);
        due("17 from", x.says(5, 1, 0, 0), NO);
        due("17 from", x.says(-1, 1, 0, 0), NO);
        due("17 to", x.says(0, 5, 0, 0), NO);
        due("17 to", x.says(0, -1, 0, 0), NO);
        due("17 alike", x.says(1, 1, 0, 0), NO);
        due("17 period t - 1", x.says(0, 1, 4, 0), NO);
        due("17 period", x.says(0, 1, -1, 0), NO);
        due("17 part", x.says(0, 1, 0, 2), NO);
        due("17 part", x.says(0, 1, 0, -1), NO);
    }

    private static void value(String text, int want) {
        VaseCourt x = new VaseCourt(0);
        due("17 text " + text, Due.textOf(x, "hold " + text + " ; limit - ( " + text + " ) ;"), 1);
        x.law(0, 0, 1);
        due("17 value of " + text, x.says(0, 1, 0, 0), want);
        due("17 value of -" + text, x.says(0, 1, 0, 1), -want);
    }

    private static void p17Values() {
        value("7", 7);
        value("0012", 12);
        value("2 + 3 * 4", 14);
        value("2 * 3 + 4", 10);
        value("10 - 3 - 2", 5);
        value("10 - 3 + 2", 9);
        value("(2 + 3) * 4", 20);
        value("- 2 * 3", -6);
        value("2 * - 3", -6);
        value("2 - - 3", 5);
        value("1 < 2", 1);
        value("2 < 2", 0);
        value("2 = 2", 1);
        value("2 = 3", 0);
        value("-1 < 0", 1);
        value("1 + 1 < 1 + 2", 1);
        value("not 0", 1);
        value("not 5", 0);
        value("not not 5", 1);
        value("not 1 < 2", 0);
        value("not 2 = 1 + 0", 1);
        value("(not 1) < 2", 1);
        value("5 or 0", 1);
        value("0 or 0", 0);
        value("5 and 6", 1);
        value("5 and 0", 0);
        value("1 or 0 and 0", 1);
        value("0 and 0 or 1", 1);
        value("0 and (0 or 1)", 0);
        value("not 0 and 0", 0);
        value("1 and 2 = 2", 1);
        value("9999*9999*9999", (int) (9999L * 9999L * 9999L));
        value("9999*9999*21 < 0", 0);
        value("9999*9999*22 < 0", 1);
        value("9999*9999*21+9999*9999 < 0", 1);
        value("-9999*9999*21-9999*9999 < 0", 0);
    }

    private static void p18Given() {
        VaseCourt x = new VaseCourt(2);
        x.way(0, 1, 0, 2);
        x.way(1, 2, 0, 2);
        Due.textOf(x, "hold 0 ; limit 2 ;");
        due("18 all hold", x.given(2), 4 + 3);
        x.law(1, 0, 1);
        // From 0: 0000 0001 0011 0012 0111 0112 0122, where 0122 goes from 1 in period 1 and 0112, 0012 in 2;
        // from 1: 1111 1112 1122 1222, the last in period 0, which the limit of 2 leaves out.
        due("18 to 0", x.given(0), 1);
        due("18 to 1", x.given(1), 3 + 3 + 1 + 2);
        due("18 to 2", x.given(2), 1 + 1);
        due("18 to 3", x.given(3), 1);
        x.law(0, 2, 1);
        due("18 the first link that gives back", x.given(0), 2);
        x.law(0, 0, 1);
        due("18 a link of period 0 is too old", x.given(1), 1 + 2 + 3);
        due("18 land", x.given(5), NO);
        due("18 land", x.given(-1), NO);
        x.soil(0);
        due("18 none", x.given(0), 0);
    }

    private static void p19Claim() {
        VaseCourt x = new VaseCourt(1);
        x.way(0, 1, 0, 1);
        x.way(1, 0, 0, 1);
        Due.textOf(x, "hold 0 ; limit 2 ;");
        due("19 all hold", x.claim(0), 0);
        x.law(0, 0, 1);
        x.law(1, 0, 1);
        // 000 001 010 011 100 101 110 111 and three that stay.
        due("19 of 0, also behind another link", x.claim(0), 4);
        due("19 of 1", x.claim(1), 4);
        due("19 of 2", x.claim(2), 0);
        due("19 given to 0", x.given(0), 1 + 3);
        Due.textOf(x, "hold 0 ; limit 1 ;");
        x.law(0, 0, 2);
        due("19 links of period 1 alone", x.claim(0), 2);
        Due.textOf(x, "hold 0 ; limit 0 ;");
        x.law(0, 0, 3);
        due("19 none is alive", x.claim(0), 0);
        due("19 land", x.claim(5), NO);
        due("19 land", x.claim(-1), NO);
    }

    private static void p20Judge() {
        VaseCourt x = new VaseCourt(0);
        for (int k = 0; k < 12; k++) due("20 judge " + k, x.judge(), k);
        due("20 full", x.judge(), FULL);
        due("20 judgements", x.count(5), 12);
    }

    private static void p21Judged() {
        VaseCourt x = new VaseCourt(0);
        x.way(0, 1, 0, 0);
        x.judge();
        due("21 to 1", x.judged(0, 1), 2);
        x.soil(2);
        x.judge();
        due("21 it is kept", x.judged(0, 1), 2);
        due("21 it is kept", x.judged(0, 0), 1);
        due("21 the second", x.judged(1, 1), 1);
        due("21 the second", x.judged(1, 0), 0);
        due("21 judgement", x.judged(2, 0), NO);
        due("21 judgement", x.judged(-1, 0), NO);
        due("21 land", x.judged(0, 5), NO);
        due("21 land", x.judged(0, -1), NO);
    }

    private static void p22Changed() {
        VaseCourt x = new VaseCourt(0);
        x.judge();
        due("22 nothing", x.changed(0), 0);
        x.way(3, 4, 0, 0);
        due("22 land 4", x.changed(0), 16);
        Due.textOf(x, "hold 0 ; limit 1 ;");
        x.law(3, 0, 1);
        due("22 land 3", x.changed(0), 8);
        x.soil(0);
        due("22 all", x.changed(0), 31);
        x.soil(31);
        due("22 back again", x.changed(0), 8);
        due("22 judgement", x.changed(1), BAD);
        due("22 judgement", x.changed(-1), BAD);
    }

    private static void p23Worst() {
        VaseCourt x = new VaseCourt(0);
        x.way(0, 1, 0, 0);
        x.way(2, 1, 0, 0);
        x.way(3, 1, 0, 0);
        x.way(4, 1, 0, 0);
        due("23 yes is greater", x.worst(1, 1), 5);
        due("23 no is greater", x.worst(0, 0), 7);
        due("23 none there", x.worst(1, 0), 8);
        due("23 land", x.worst(5, 0), NO);
        due("23 land", x.worst(-1, 0), NO);
        due("23 period", x.worst(0, 2), NO);
        due("23 period", x.worst(0, -1), NO);
    }

    private static void p24Question() {
        VaseCourt x = new VaseCourt(0);
        due("24 like ones: the least", x.question(), 0);
        for (int a = 0; a < 4; a++) x.way(a, 4, 0, 0);
        due("24 in the second period", x.question(), 14);
        x.soil(4);
        due("24 of like ones the least land", x.question(), 12);
        x.paper(5, 2, 0, 1, 0);
        due("24 one history", x.question(), NONE);
        x.soil(0);
        due("24 none", x.question(), NONE);
        due("24 the tenth period", openAtTheEnd().question(), 113);
    }

    private static VaseCourt openAtTheEnd() {
        VaseCourt x = new VaseCourt(10);
        x.soil(16);
        x.way(4, 3, 10, 10);
        return x;
    }

    private static void p25WorstOfTwo() {
        VaseCourt x = new VaseCourt(0);
        // 00 11 22 33 44: by one question 1 and 4, by the next 4 to 1 and 3.
        due("25 five that stay", x.worstOfTwo(2, 0), 3);
        x.soil(3);
        due("25 two", x.worstOfTwo(0, 0), 1);
        due("25 parts nothing, but the next does", x.worstOfTwo(4, 0), 1);
        x.soil(1);
        due("25 one", x.worstOfTwo(0, 1), 1);
        x.soil(0);
        due("25 none", x.worstOfTwo(0, 0), 0);
        // Of four fifths that say no, the next land of the same period leaves three.
        due("25 all ways", openAll(10).worstOfTwo(3, 7), 3 * 48828125L);
        due("25 land", x.worstOfTwo(5, 0), NO);
        due("25 land", x.worstOfTwo(-1, 0), NO);
        due("25 period", x.worstOfTwo(0, 2), NO);
        due("25 period", x.worstOfTwo(0, -1), NO);
    }

    private static void p26FirstOfTwo() {
        VaseCourt x = new VaseCourt(0);
        due("26 like ones: the least", x.firstOfTwo(), 0);
        x.soil(16);
        due("26 one history", x.firstOfTwo(), NONE);
        x.soil(24);
        // Any question is like any other, as the next one parts the two.
        due("26 two", x.firstOfTwo(), 0);
        x.soil(0);
        due("26 none", x.firstOfTwo(), NONE);
        VaseCourt y = new VaseCourt(0);
        for (int a = 0; a < 4; a++) y.way(a, 4, 0, 0);
        // 00 04 11 14 22 24 33 34 44: 4 in period 1 leaves 5 and 4, of which the next leaves 4 and 3.
        due("26 asked of 4", y.worstOfTwo(4, 1), 4);
        // 0 in period 0 leaves 2 and 7, of which the next leaves 1 and 4.
        due("26 asked of 0", y.worstOfTwo(0, 0), 4);
        due("26 of like ones the least", y.firstOfTwo(), 0);
        y.soil(14);
        due("26 asked of 4 in period 1: 3 and 3", y.worstOfTwo(4, 1), 2);
        due("26 asked of 1 in period 0: 2 and 4", y.worstOfTwo(1, 0), 2);
        due("26 asked of 0 in period 0: all, of which the next leaves 3", y.worstOfTwo(0, 0), 3);
        due("26 first", y.firstOfTwo(), 1);
        due("26 all ways", openAll(10).firstOfTwo(), 0);
        due("26 in the last period", openAtTheEnd().firstOfTwo(), 0);
    }

    private static void p27Sherd() {
        VaseCourt x = new VaseCourt(0);
        due("27 left", x.sherd(-1, 0), BAD);
        due("27 left", x.sherd(10000, 0), BAD);
        due("27 right", x.sherd(0, -1), BAD);
        due("27 right", x.sherd(0, 10000), BAD);
        for (int k = 0; k < 8; k++) due("27 sherd " + k, x.sherd(0, 9999), k);
        due("27 full", x.sherd(0, 9999), FULL);
        due("27 BAD ahead of FULL", x.sherd(0, 10000), BAD);
        due("27 sherds", x.count(6), 8);
    }

    private static void p28Set() {
        VaseCourt x = new VaseCourt(0);
        due("28 slack", x.set(0, 4), 0);
        due("28 slack", x.set(0, 5), BAD);
        due("28 slack", x.set(0, -1), BAD);
        due("28 slack", x.set(0, 0), 4);
        due("28 enough", x.set(1, 10), 3);
        due("28 enough", x.set(1, 11), BAD);
        due("28 enough", x.set(1, 0), BAD);
        due("28 enough", x.set(1, 1), 10);
        due("28 what", x.set(2, 1), BAD);
        due("28 what", x.set(-1, 1), BAD);
        due("28 slack has stayed", x.set(0, 0), 0);
    }

    private static void p29Joined() {
        VaseCourt x = new VaseCourt(0);
        x.sherd(9, 1234);
        x.sherd(8765, 9990);
        x.sherd(8756, 0);
        due("29 all digits", x.joined(0, 1), 1);
        due("29 leading noughts", x.joined(1, 0), 1);
        due("29 two digits", x.joined(0, 2), 0);
        x.set(0, 1);
        due("29 slack 1", x.joined(0, 2), 0);
        x.set(0, 2);
        due("29 slack 2", x.joined(0, 2), 1);
        due("29 a sum that carries is not 9", x.joined(2, 1), 0);
        x.set(0, 4);
        due("29 slack 4", x.joined(2, 1), 1);
        due("29 itself", x.joined(1, 1), BAD);
        due("29 a", x.joined(3, 0), BAD);
        due("29 a", x.joined(-1, 0), BAD);
        due("29 b", x.joined(0, 3), BAD);
        due("29 b", x.joined(0, -1), BAD);
    }

    private static void rowIs(VaseCourt x, String sherds) {
        due("30 how many of " + sherds, x.row(-1), sherds.length());
        for (int i = 0; i < sherds.length(); i++) due("30 row of " + sherds + " " + i, x.row(i), sherds.charAt(i) - '0');
        due("30 behind " + sherds, x.row(sherds.length()), NONE);
        due("30 row -2", x.row(-2), NONE);
        due("30 row greatest", x.row(MAX), NONE);
        due("30 row least", x.row(MIN), NONE);
    }

    private static void p30Row() {
        VaseCourt x = new VaseCourt(0);
        rowIs(x, "");
        x.sherd(1111, 2222);
        rowIs(x, "0");
        x.sherd(1111, 8888);
        rowIs(x, "10");
        x.sherd(7777, 8888);
        rowIs(x, "021");
        x.sherd(7777, 8888);
        rowIs(x, "2031");
        x.sherd(1111, 3333);
        x.sherd(6666, 8888);
        x.sherd(6666, 2222);
        rowIs(x, "5021463");
        x.sherd(5555, 5555);
        rowIs(x, "5021463");
        VaseCourt y = new VaseCourt(0);
        for (int k = 0; k < 8; k++) y.sherd(0, 0);
        rowIs(y, "0");
        y.set(0, 4);
        rowIs(y, "01234567");
    }

    private static void p31Record() {
        VaseCourt x = new VaseCourt(0);
        due("31 marks", x.record(-1, 0), BAD);
        due("31 marks", x.record(1024, 0), BAD);
        due("31 known", x.record(0, -1), BAD);
        due("31 known", x.record(0, 1024), BAD);
        for (int k = 0; k < 10; k++) due("31 record " + k, x.record(1023, 1023), k);
        due("31 full", x.record(0, 0), FULL);
        due("31 BAD ahead of FULL", x.record(0, 1024), BAD);
        due("31 records", x.count(7), 10);
    }

    private static void p32Same() {
        VaseCourt x = new VaseCourt(0);
        x.record(7, 7);
        x.record(63, 63);
        x.record(56, 57);
        x.record(56, 56);
        x.record(0, 1);
        due("32 three are known of both", x.same(0, 1, 0), 1);
        due("32 either way round", x.same(1, 0, 0), 1);
        due("32 unlike in what is known", x.same(1, 2, 1), 1);
        due("32 no match at odds", x.same(1, 2, 0), 0);
        due("32 two unknown are not at odds", x.same(0, 3, 1), 0);
        due("32 not enough", x.same(0, 3, 0), 0);
        due("32 one after the other", x.same(0, 2, 2), 1);
        due("32 another thing", x.same(0, 4, 2), 0);
        due("32 one and itself", x.same(4, 4, 0), 0);
        due("32 one and itself", x.same(4, 4, 1), 0);
        due("32 one and itself", x.same(4, 4, 2), 1);
        due("32 one and itself", x.same(0, 0, 0), 1);
        x.set(1, 4);
        due("32 four are enough", x.same(0, 1, 0), 0);
        due("32 four are enough", x.same(0, 2, 2), 0);
        due("32 what", x.same(0, 0, 3), BAD);
        due("32 what", x.same(0, 0, -1), BAD);
        due("32 a", x.same(5, 0, 0), BAD);
        due("32 a", x.same(-1, 0, 0), BAD);
        due("32 b", x.same(0, 5, 0), BAD);
        due("32 b", x.same(0, -1, 0), BAD);
    }

    private static void p33Things() {
        VaseCourt x = new VaseCourt(0);
        due("33 none", x.things(-1), 0);
        due("33 none", x.things(-2), 0);
        x.record(56, 57);
        x.record(7, 7);
        due("33 two", x.things(-1), 2);
        due("33 at odds in two things is no copy", x.things(-2), 0);
        x.record(63, 62);
        due("33 they match 7 in two marks alone", x.things(-1), 2);
        x.record(63, 127);
        due("33 two: 7 matches 63, that is at odds with 56", x.things(-1), 1);
        due("33 a copy", x.things(-2), 1);
        x.record(0, 3);
        due("33 another", x.things(-1), 2);
        due("33 a copy", x.things(-2), 1);
        due("33 i 0", x.things(0), BAD);
        due("33 i -3", x.things(-3), BAD);
    }

    private static void p34Count() {
        VaseCourt x = new VaseCourt(5);
        x.way(0, 1, 0, 0);
        x.paper(0, 0, 0, 0, 0);
        x.paper(0, 0, 0, 0, 0);
        x.paper(0, 0, 0, 0, 1);
        x.forge(1, 1);
        for (int k = 0; k < 4; k++) x.law(0, 0, 0);
        for (int k = 0; k < 5; k++) x.judge();
        for (int k = 0; k < 6; k++) x.sherd(0, 0);
        for (int k = 0; k < 7; k++) x.record(0, 0);
        Due.textOf(x, "hold 1 ; limit 1 ;");
        x.feed(3, 0);
        x.soil(18);
        int[] counts = {7, 1, 3, 2, 4, 5, 6, 7, 2, 3, 18};
        for (int what = 0; what < counts.length; what++) due("34 count " + what, x.count(what), counts[what]);
        due("34 count -1", x.count(-1), BAD);
        due("34 count 11", x.count(11), BAD);
    }

    private static void p35Sheet() {
        VaseCourt x = new VaseCourt(0);
        due("35 sheet", x.sheet(-1, 0, 1), BAD);
        due("35 sheet", x.sheet(4, 0, 1), BAD);
        due("35 sort", x.sheet(0, -2, 1), BAD);
        due("35 sort", x.sheet(0, 3, 1), BAD);
        due("35 sort ahead of size", x.sheet(0, 3, -1), BAD);
        due("35 n 41", x.sheet(0, 2, 41), BAD);
        due("35 n -1", x.sheet(0, 2, -1), BELOW_ZERO);
        due("35 n least", x.sheet(0, 2, MIN), BELOW_ZERO);
        due("35 still missing", x.cell(0, 0, 0), NOTHING);
        due("35 n 0", x.sheet(0, 2, 0), 1);
        due("35 empty", x.cell(0, 0, 0), OUTSIDE);
        due("35 n 40", x.sheet(3, 1, 40), 1);
        due("35 the last", x.cell(3, 39, 0), 1);
        due("35 missing", x.sheet(3, -1, -5), 1);
        due("35 missing", x.sheet(3, -1, 99), 1);
        due("35 is missing", x.cell(3, 0, 0), NOTHING);
        due("35 missing, no such sheet", x.sheet(4, -1, 0), BAD);
        x.sheet(0, 2, 5);
        x.cell(0, 0, 6);
        due("35 kind 6", x.papers(0, 2, 0, 1), 0);
        x.sheet(0, 2, 5);
        due("35 all 0", x.papers(0, 2, 0, 1), 1);
    }

    private static void p36Cell() {
        VaseCourt x = new VaseCourt(0);
        due("36 sheet", x.cell(-1, 0, 0), BAD);
        due("36 sheet", x.cell(4, 0, 0), BAD);
        due("36 missing", x.cell(0, -1, 0), NOTHING);
        for (int sort = 0; sort < 3; sort++) x.sheet(sort, sort, 5);
        due("36 outside", x.cell(0, -1, 0), OUTSIDE);
        due("36 outside", x.cell(0, 5, 0), OUTSIDE);
        due("36 outside", x.cell(0, MAX, 0), OUTSIDE);
        for (int sort = 0; sort < 3; sort++) due("36 cell", x.cell(sort, 1, 0x30004), 1);
        due("36 lowest 8 bits", x.papers(0, 0, 0, 1), 1);
        due("36 lowest 8 bits", x.paperTold(0, 1), 4);
        due("36 lowest 16 bits", x.papers(1, 1, 0, 1), 1);
        due("36 lowest 16 bits", x.paperTold(1, 1), 4);
        due("36 all bits", x.papers(2, 2, 0, 1), 0);
        x.cell(1, 1, 0x104);
        due("36 a short keeps bit 8", x.papers(1, 1, 0, 1), 0);
    }

    private static void p37Copy() {
        VaseCourt x = new VaseCourt(2);
        x.sheet(0, 2, 6);
        x.sheet(1, 2, 5);
        x.sheet(2, 1, 5);
        due("37 sheet", x.copy(4, 0, 3, 0, 1), BAD);
        due("37 other", x.copy(3, 0, -1, 0, 1), BAD);
        due("37 missing", x.copy(3, 0, 0, 0, -1), NOTHING);
        due("37 other missing", x.copy(0, 0, 3, 0, -1), NOTHING);
        due("37 sorts", x.copy(0, 0, 2, 0, -1), OTHER_SORT);
        due("37 sorts, nothing to copy", x.copy(0, 0, 2, 0, 0), OTHER_SORT);
        due("37 n -1", x.copy(0, 0, 1, 0, -1), OUTSIDE);
        due("37 n least", x.copy(0, 0, 1, 0, MIN), OUTSIDE);
        due("37 n greatest", x.copy(0, 1, 1, 1, MAX), OUTSIDE);
        due("37 i -1", x.copy(0, -1, 1, 0, 1), OUTSIDE);
        due("37 j -1", x.copy(0, 0, 1, -1, 1), OUTSIDE);
        due("37 i greatest", x.copy(0, MAX, 1, 0, 1), OUTSIDE);
        due("37 to the end and one more", x.copy(0, 1, 1, 0, 6), OUTSIDE);
        due("37 the other's end and one more", x.copy(0, 0, 1, 0, 6), OUTSIDE);
        due("37 nothing at the ends", x.copy(0, 6, 1, 5, 0), 0);
        due("37 nothing behind the end", x.copy(0, 7, 1, 5, 0), OUTSIDE);
        for (int i = 0; i < 5; i++) x.cell(0, i, i == 3 || i == 4 ? 0 : i + 1);
        due("37 copy", x.copy(0, 0, 1, 0, 5), 5);
        due("37 as they were", x.papers(1, 2, 0, 1), 1);
        for (int what = 0; what < 3; what++) due("37 told " + what, x.paperTold(0, what), what + 1);
        due("37 on itself", x.copy(0, 0, 0, 1, 4), 4);
        due("37 on itself: kind 1, a 1", x.papers(0, 2, 0, 1), 1);
        int[] told = {1, 1, 2};
        for (int what = 0; what < 3; what++) due("37 told " + what, x.paperTold(1, what), told[what]);
        due("37 back on itself", x.copy(0, 1, 0, 0, 3), 3);
        due("37 back on itself: 1 2 3 3 0", x.papers(0, 2, 0, 1), 1);
        for (int what = 0; what < 3; what++) due("37 told " + what, x.paperTold(2, what), what + 1);
    }

    private static void p38Papers() {
        VaseCourt x = new VaseCourt(0);
        due("38 sheet", x.papers(4, 0, 0, 1), BAD);
        due("38 sheet", x.papers(-1, 0, 0, 1), BAD);
        due("38 sort", x.papers(0, 3, 0, 1), BAD);
        due("38 sort", x.papers(0, -1, 0, 1), BAD);
        due("38 n", x.papers(0, 0, 0, 9), BAD);
        due("38 n", x.papers(0, 0, 0, -1), BAD);
        due("38 missing", x.papers(0, 2, 0, 1), NOTHING);
        x.sheet(0, 0, 40);
        due("38 another sort", x.papers(0, 2, 0, 1), OTHER_SORT);
        due("38 another sort ahead of outside", x.papers(0, 2, -1, 1), OTHER_SORT);
        due("38 outside", x.papers(0, 0, -1, 1), OUTSIDE);
        due("38 outside", x.papers(0, 0, 36, 1), OUTSIDE);
        due("38 outside", x.papers(0, 0, MAX, 1), OUTSIDE);
        due("38 none", x.papers(0, 0, 40, 0), 0);
        due("38 nothing came", x.count(2), 0);
        x.cell(0, 5, 6);
        x.cell(0, 10, 3);
        x.cell(0, 11, 2);
        x.cell(0, 12, 1);
        x.cell(0, 13, 1);
        x.cell(0, 14, 1);
        due("38 one is left out", x.papers(0, 0, 0, 3), 2);
        int[] told = {3, 2, 1, 1, 1};
        for (int what = 0; what < 5; what++) due("38 told " + what, x.paperTold(1, what), told[what]);
        due("38 the last eight, what stood ahead came", x.papers(0, 0, 26, 8), OUTSIDE);
        due("38 two came", x.count(2), 4);
        due("38 eight but one", x.papers(0, 0, 0, 8), 7);
        due("38 five have room", x.papers(0, 0, 0, 8), 5);
        due("38 full", x.papers(0, 0, 0, 8), 0);
        due("38 papers", x.count(2), 16);
        due("38 outside, though full", x.papers(0, 0, 36, 1), OUTSIDE);
    }

    private static void p39Taken() {
        VaseCourt x = new VaseCourt(0);
        for (int kind = 0; kind < 6; kind++) x.paper(kind, kind % 5, 0, 0, 0);
        String[] under = {"100000", "110000", "101000", "110100", "101010", "100001"};
        for (int kind = 0; kind < 6; kind++) {
            for (int k = 0; k < 6; k++) {
                due("39 taken " + kind + " for " + k, x.taken(kind, k),
                        under[kind].charAt(k) == '1' ? kind % 5 : OTHER_SORT);
            }
        }
        due("39 paper", x.taken(6, 0), NOTHING);
        due("39 paper", x.taken(-1, 0), NOTHING);
        due("39 k", x.taken(0, 6), BAD);
        due("39 k", x.taken(0, -1), BAD);
        due("39 BAD ahead of -11", x.taken(6, 6), BAD);
        x.forge(0, 1);
        due("39 a forged one, too", x.taken(0, 0), 0);
    }
}
