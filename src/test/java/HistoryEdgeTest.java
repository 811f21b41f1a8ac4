/** The edges that the document's words name of periods, ways, soil, papers, histories and questions. */
public final class HistoryEdgeTest {
    private static final int NONE = -1, BAD = -2, FULL = -4;
    private static final long NO = -4611686018427387904L;
    private static final int MIN = Integer.MIN_VALUE, MAX = Integer.MAX_VALUE;
    private static final Due DUE = new Due();

    public static void main(String[] args) {
        periodsAreTwoAndTheNumberModulo11();
        theLastPeriodIsNow();
        anObjectIsUsedFor512Calls();
        aNewObjectHasNoWaysPapersLaws();
        waysAreTwentyAtMost();
        aWayIsOpenFromItsFirstPeriodToItsLast();
        aMoveIsBelowTheLastPeriod();
        aWayLeadsOneWayAlone();
        waysAlikeAreOneMove();
        theThingMayStay();
        soilIsAllAtFirst();
        soilBindsPeriod0();
        papersAreSixteenAtMost();
        papersLeanOnLesserOnes();
        placesAllowedFromTheFirstPeriod();
        placesAllowedInTheLastPeriods();
        placesAllowedOfLandsAlike();
        placesAllowedInTwoPeriods();
        aPaperStandsIfAllOnWhichItLeansStand();
        justTheseFall();
        aPaperCanFallOnce();
        onlyPapersThatStandBind();
        noneGoesThroughAPlaceThatIsNotAllowed();
        paperToldIsOfEachEnd();
        historiesAreManyOrOneOrNone();
        atAndBothAtTheEnds();
        historyIsOfTheLeastFirst();
        historyHas10000AtMost();
        worstOfAllOrNone();
        theQuestionIsOfTheLeastPeriodThenLand();
        theFirstAndTheLastPlaceAreAskedOf();
        noQuestionIfNoneIsBelowAll();
        worstOfTwoOfFew();
        theFirstOfTwoIsOfTheLeastPeriodThenLand();
        takenByOthersBetween();
        DUE.end();
    }

    private static void due(String call, long got, long want) {
        DUE.is(call, got, want);
    }

    /** "PERIODS are 0 .. t - 1, t being 2 and the constructor's number modulo 11 (from 0)". */
    private static void periodsAreTwoAndTheNumberModulo11() {
        for (int turn = -3; turn <= 3; turn++) {
            for (int left = 0; left < 11; left++) {
                due("1 periods of " + (11 * turn + left), new VaseCourt(11 * turn + left).count(0), 2 + left);
            }
        }
        // 2147483647 is 11 * 195225786 and 1; -2147483648 is 11 * -195225787 and 9.
        due("1 the greatest number", new VaseCourt(MAX).count(0), 3);
        due("1 the least number", new VaseCourt(MIN).count(0), 11);
    }

    /** "NOW is t - 1". */
    private static void theLastPeriodIsNow() {
        for (int left = 0; left < 11; left++) {
            VaseCourt x = new VaseCourt(left);
            int now = 1 + left;
            due("1 ahead of period 0", x.at(0, -1), NO);
            due("1 period 0", x.at(0, 0), 1);
            due("1 NOW", x.at(0, now), 1);
            due("1 behind NOW", x.at(0, now + 1), NO);
            Due.textOf(x, "hold now ; limit 0 ;");
            x.law(0, 0, 1);
            due("1 now in a text", x.says(0, 1, 0, 0), now);
        }
    }

    /** "An object is used for at most 512 calls": the last of these is answered like the first. */
    private static void anObjectIsUsedFor512Calls() {
        VaseCourt x = new VaseCourt(10);
        for (int k = 0; k < 511; k++) due("call " + k, x.firstOfTwo(), 0);
        due("call 512", x.firstOfTwo(), 0);
    }

    /** "No WAYS, PAPERS, LAWS", nor anything else; SOIL is all, and the one TEXT is TEXT 0. */
    private static void aNewObjectHasNoWaysPapersLaws() {
        for (int left = 0; left < 11; left++) {
            VaseCourt x = new VaseCourt(left);
            int[] counts = {2 + left, 0, 0, 0, 0, 0, 0, 0, 1, 0, 31};
            for (int what = 0; what <= 10; what++) due("1 count " + what, x.count(what), counts[what]);
            for (int land = 0; land < 5; land++) {
                due("1 no law", x.lawOf(land, 1 + left), 0);
                due("1 no way", x.says(land, (land + 1) % 5, left, 0), 0);
            }
        }
    }

    /** "WAYS (20 at most, numbered from 0)". */
    private static void waysAreTwentyAtMost() {
        VaseCourt x = new VaseCourt(0);
        for (int k = 0; k < 19; k++) due("2 way " + k, x.way(0, 1, 0, 0), k);
        due("2 the last way there may be", x.way(3, 2, 0, 0), 19);
        due("2 it is open", x.says(3, 2, 0, 0), 1);
        due("2 one too many", x.way(2, 3, 0, 0), FULL);
        due("2 which is not open", x.says(2, 3, 0, 0), 0);
        due("2 ways", x.count(1), 20);
    }

    private static void openIs(VaseCourt x, int a, int b, int... open) {
        for (int p = 0; p < open.length; p++) due("2 open in " + p, x.says(a, b, p, 0), open[p]);
        due("2 no link of NOW", x.says(a, b, open.length, 0), NO);
    }

    /** "open for periods from .. to". */
    private static void aWayIsOpenFromItsFirstPeriodToItsLast() {
        VaseCourt x = new VaseCourt(4);
        x.way(0, 1, 1, 3);
        openIs(x, 0, 1, 0, 1, 1, 1, 0);
        x.way(0, 2, 0, 0);
        openIs(x, 0, 2, 1, 0, 0, 0, 0);
        x.way(0, 3, 4, 4);
        openIs(x, 0, 3, 0, 0, 0, 0, 1);
        x.way(0, 4, 0, 4);
        openIs(x, 0, 4, 1, 1, 1, 1, 1);
        x.way(0, 1, 3, 4);
        openIs(x, 0, 1, 0, 1, 1, 2, 1);
    }

    /** "a MOVE in period p (from p to p + 1; p is below t - 1)". */
    private static void aMoveIsBelowTheLastPeriod() {
        for (int left = 0; left < 11; left++) {
            VaseCourt x = new VaseCourt(left);
            int last = left;
            due("2 from the last period of a move", x.way(0, 1, last, last), 0);
            due("2 to NOW", x.way(0, 1, last, last + 1), BAD);
            due("2 from NOW", x.way(0, 1, last + 1, last + 1), BAD);
            due("2 the thing comes there NOW", x.at(1, last + 1), 2);
            due("2 and not ahead of it", x.at(1, last), 1);
        }
    }

    /** "from a LAND a to another one b": not from b to a. */
    private static void aWayLeadsOneWayAlone() {
        VaseCourt x = new VaseCourt(0);
        x.way(4, 0, 0, 0);
        due("2 from a to b", x.both(4, 0, 0, 1), 1);
        due("2 not from b to a", x.both(0, 0, 4, 1), 0);
    }

    /** "may be made, if a WAY from a to b is open": by many it is the one MOVE still. */
    private static void waysAlikeAreOneMove() {
        VaseCourt x = new VaseCourt(1);
        x.way(0, 1, 0, 1);
        due("9 by one way", x.histories(), 7);
        x.way(0, 1, 0, 1);
        x.way(0, 1, 1, 1);
        due("9 by ways alike", x.histories(), 7);
    }

    /** "from each one to the next it stays, or there is a MOVE". */
    private static void theThingMayStay() {
        VaseCourt x = new VaseCourt(10);
        for (int land = 0; land < 5; land++) {
            due("9 it stays", x.both(land, 0, land, 11), 1);
            due("9 it stays all the time", x.history(land, 11), land);
        }
        due("9 no other histories", x.histories(), 5);
    }

    /** "SOIL: LANDS (bits) where the thing may be in period 0 (all at first)"; "SOIL (0 .. 31)". */
    private static void soilIsAllAtFirst() {
        VaseCourt x = new VaseCourt(0);
        due("3 all at first", x.soil(0), 31);
        due("3 none", x.histories(), 0);
        due("3 of none", x.soil(31), 0);
        due("3 all", x.histories(), 5);
        for (int lands = 0; lands < 32; lands++) {
            x.soil(lands);
            due("3 soil " + lands, x.histories(), Integer.bitCount(lands));
            due("3 it is soil", x.count(10), lands);
            for (int land = 0; land < 5; land++) due("3 in " + land, x.at(land, 1), lands >> land & 1);
        }
    }

    /** "that of 0 is of SOIL": that of 1 need not be. */
    private static void soilBindsPeriod0() {
        VaseCourt x = new VaseCourt(0);
        x.way(0, 4, 0, 0);
        x.soil(1);
        due("3 not in period 0", x.at(4, 0), 0);
        due("3 in period 1", x.at(4, 1), 1);
        x.soil(16);
        due("3 not from 0", x.histories(), 1);
    }

    /** "PAPERS (16 at most, numbered from 0)". */
    private static void papersAreSixteenAtMost() {
        VaseCourt x = new VaseCourt(0);
        for (int k = 0; k < 15; k++) due("4 paper " + k, x.paper(0, 0, 0, 0, 0), k);
        due("4 the last paper there may be", x.paper(5, 4, 3, 1, 32767), 15);
        due("4 one too many", x.paper(0, 0, 0, 0, 0), FULL);
        due("4 that leans on the last", x.paper(0, 0, 0, 0, 32768), FULL);
        due("4 that leans on itself", x.paper(0, 0, 0, 0, 65536), BAD);
        int[] told = {5, 4, 3, 1, 32767, 0, 1};
        for (int what = 0; what <= 6; what++) due("5 the last paper", x.paperTold(15, what), told[what]);
        due("5 behind the last paper", x.paperTold(16, 0), BAD);
    }

    /** "LEAN on lesser PAPERS (bits)"; BAD: "bits (of PAPERS that aren't there)". */
    private static void papersLeanOnLesserOnes() {
        VaseCourt x = new VaseCourt(0);
        for (int k = 0; k < 16; k++) {
            due("4 on itself", x.paper(0, 0, 0, 0, 1 << k), BAD);
            due("4 on itself and all", x.paper(0, 0, 0, 0, (1 << k + 1) - 1), BAD);
            due("4 on a later one", x.paper(0, 0, 0, 0, 1 << k + 1), BAD);
            due("4 on the greatest bit", x.paper(0, 0, 0, 0, MIN), BAD);
            due("4 on all ahead", x.paper(0, 0, 0, 0, (1 << k) - 1), k);
            due("4 leans", x.paperTold(k, 4), (1 << k) - 1);
        }
    }

    private static void allowedIs(int number, int[] paper, String rows) {
        VaseCourt x = new VaseCourt(number);
        x.paper(paper[0], paper[1], paper[2], paper[3], 0);
        String[] byPeriod = rows.split(" ");
        due("6 periods", byPeriod.length, x.count(0));
        for (int period = 0; period < byPeriod.length; period++) {
            long there = 0;
            for (int land = 0; land < 5; land++) {
                int want = byPeriod[period].charAt(land) - '0';
                due("6 kind " + paper[0] + " of " + paper[3] + " in " + land + ", " + period,
                        x.allows(0, land, period), want);
                there += want;
            }
            due("6 some are allowed", there == 0 ? 1 : 0, 0);
        }
    }

    /** Kinds whose period is 0, then 1: nothing is ahead of it, then one period. */
    private static void placesAllowedFromTheFirstPeriod() {
        allowedIs(3, new int[] {0, 1, 3, 0}, "01000 11111 11111 11111 11111");
        allowedIs(3, new int[] {1, 1, 3, 0}, "01000 01010 11111 11111 11111");
        allowedIs(3, new int[] {2, 1, 3, 0}, "01000 11111 11111 11111 11111");
        allowedIs(3, new int[] {3, 1, 3, 0}, "01000 01010 11111 11111 11111");
        allowedIs(3, new int[] {4, 1, 3, 0}, "01000 01000 01000 11111 11111");
        allowedIs(3, new int[] {5, 1, 3, 0}, "10111 11111 11111 11111 11111");
        allowedIs(3, new int[] {0, 1, 3, 1}, "11111 01000 11111 11111 11111");
        allowedIs(3, new int[] {1, 1, 3, 1}, "11111 01000 01010 11111 11111");
        allowedIs(3, new int[] {2, 1, 3, 1}, "10111 01000 11111 11111 11111");
        allowedIs(3, new int[] {3, 1, 3, 1}, "11101 01000 01010 11111 11111");
        allowedIs(3, new int[] {4, 1, 3, 1}, "10111 01000 01000 01000 11111");
        allowedIs(3, new int[] {5, 1, 3, 1}, "11111 10111 11111 11111 11111");
    }

    /** Kinds whose period is t - 3, t - 2, t - 1: of what is behind it two periods are left, one, none. */
    private static void placesAllowedInTheLastPeriods() {
        allowedIs(2, new int[] {4, 0, 4, 1}, "01111 10000 10000 10000");
        allowedIs(2, new int[] {0, 0, 4, 2}, "11111 11111 10000 11111");
        allowedIs(2, new int[] {1, 0, 4, 2}, "11111 11111 10000 10001");
        allowedIs(2, new int[] {2, 0, 4, 2}, "01111 01111 10000 11111");
        allowedIs(2, new int[] {3, 0, 4, 2}, "11110 11110 10000 10001");
        allowedIs(2, new int[] {4, 0, 4, 2}, "01111 01111 10000 10000");
        allowedIs(2, new int[] {5, 0, 4, 2}, "11111 11111 01111 11111");
        allowedIs(2, new int[] {0, 4, 0, 3}, "11111 11111 11111 00001");
        allowedIs(2, new int[] {1, 4, 0, 3}, "11111 11111 11111 00001");
        allowedIs(2, new int[] {2, 4, 0, 3}, "11110 11110 11110 00001");
        allowedIs(2, new int[] {3, 4, 0, 3}, "01111 01111 01111 00001");
        allowedIs(2, new int[] {4, 4, 0, 3}, "11110 11110 11110 00001");
        allowedIs(2, new int[] {5, 4, 0, 3}, "11111 11111 11111 11110");
    }

    /** Lands a and b of a paper may be alike: "just a and b" is just a then. */
    private static void placesAllowedOfLandsAlike() {
        allowedIs(2, new int[] {1, 2, 2, 1}, "11111 00100 00100 11111");
        allowedIs(2, new int[] {3, 2, 2, 1}, "11011 00100 00100 11111");
        allowedIs(2, new int[] {5, 2, 2, 1}, "11111 11011 11111 11111");
    }

    private static void placesAllowedInTwoPeriods() {
        allowedIs(0, new int[] {1, 0, 1, 0}, "10000 11000");
        allowedIs(0, new int[] {4, 0, 1, 0}, "10000 10000");
        allowedIs(0, new int[] {3, 0, 1, 1}, "10111 10000");
        allowedIs(0, new int[] {4, 0, 1, 1}, "01111 10000");
    }

    /** Each paper leans on the one ahead of it: 16 in a row. */
    private static VaseCourt chain() {
        VaseCourt x = new VaseCourt(0);
        for (int k = 0; k < 16; k++) x.paper(0, 0, 0, 0, k == 0 ? 0 : 1 << k - 1);
        return x;
    }

    /** "A PAPER STANDS, if it is not FORGED, and all on which it LEANS STAND". */
    private static void aPaperStandsIfAllOnWhichItLeansStand() {
        VaseCourt x = chain();
        due("7 all stand", x.count(3), 16);
        due("7 the first forged", x.forge(0, 1), 0);
        due("7 the last has fallen", x.paperTold(15, 6), 0);
        due("7 the last is not forged", x.paperTold(15, 5), 0);
        due("7 the last forged, too", x.forge(15, 1), 0);
        due("7 the first not", x.forge(0, 0), 15);
        due("7 the last not", x.forge(15, 0), 16);
        due("7 not forged already", x.forge(15, 0), 16);
        due("7 one in the middle", x.forge(8, 1), 8);
        due("7 the one ahead of it stands", x.paperTold(7, 6), 1);
        due("7 itself does not", x.paperTold(8, 6), 0);
        due("7 the one behind it does not", x.paperTold(9, 6), 0);
        VaseCourt y = new VaseCourt(0);
        y.paper(0, 0, 0, 0, 0);
        y.paper(0, 0, 0, 0, 0);
        y.paper(0, 0, 0, 0, 3);
        due("7 of two on which it leans one is forged", y.forge(1, 1), 1);
        due("7 the other one", y.forge(0, 1), 0);
        due("7 one of them is not forged", y.forge(1, 0), 1);
        due("7 none of them is", y.forge(0, 0), 3);
    }

    /** "papers that lean on others fall with a forged one, and just these"; "(bits; with itself)". */
    private static void justTheseFall() {
        VaseCourt x = chain();
        for (int k = 0; k < 16; k++) due("8 with paper " + k, x.fall(k), 65535 & -(1 << k));
        due("8 nothing fell by asking", x.count(3), 16);
        VaseCourt y = new VaseCourt(0);
        for (int k = 0; k < 16; k++) y.paper(0, 0, 0, 0, k < 2 ? 0 : 1 << k % 2);
        due("8 even ones", y.fall(0), 0x5555);
        due("8 odd ones", y.fall(1), 0xAAAA);
        due("8 just itself", y.fall(15), 0x8000);
    }

    /** "those that STAND now, and would not". */
    private static void aPaperCanFallOnce() {
        VaseCourt x = chain();
        x.forge(8, 1);
        due("8 those that have not fallen", x.fall(0), 0xFF);
        due("8 the last of them", x.fall(7), 0x80);
        due("8 the forged one", x.fall(8), 0);
        due("8 one that fell with it", x.fall(15), 0);
    }

    /** "each PAPER that STANDS allows each of its PLACES". */
    private static void onlyPapersThatStandBind() {
        VaseCourt x = new VaseCourt(0);
        x.paper(5, 0, 0, 0, 0);
        x.paper(0, 1, 0, 0, 1);
        due("9 both stand", x.histories(), 1);
        x.forge(1, 1);
        due("9 the first alone", x.histories(), 4);
        x.forge(1, 0);
        x.forge(0, 1);
        due("9 none, as the second leans on the first", x.histories(), 5);
        x.forge(0, 0);
        due("9 both again", x.histories(), 1);
        x.paper(0, 2, 0, 1, 0);
        due("9 one more, at odds with staying", x.histories(), 0);
    }

    /** "each PAPER that STANDS allows each of its PLACES": also those between the ones that are asked of. */
    private static void noneGoesThroughAPlaceThatIsNotAllowed() {
        VaseCourt x = new VaseCourt(1);
        x.way(0, 1, 0, 0);
        x.way(1, 2, 1, 1);
        x.paper(5, 1, 0, 1, 0);
        // 000 222 333 444; not 011, 012, 111, 112.
        due("9 none by 1 in period 1", x.histories(), 4);
        due("10 behind it", x.at(2, 2), 1);
        due("10 ahead of it", x.at(0, 0), 1);
        due("10 ahead of it, there", x.at(1, 0), 0);
        due("10 behind it, there", x.at(1, 2), 0);
        due("11 from ahead to behind", x.both(0, 0, 2, 2), 0);
        due("11 from behind to ahead", x.both(2, 2, 0, 0), 0);
        due("18 to 2", x.given(2), 1);
        due("18 to 1", x.given(1), 0);
        due("23 worst", x.worst(2, 2), 3);
        due("25 worst of two", x.worstOfTwo(2, 2), 2);
        x.forge(0, 1);
        x.paper(5, 0, 0, 0, 0);
        // 111 112 222 333 444; not 000, 011, 012, though soil has 0.
        due("9 none by 0 in period 0", x.histories(), 5);
        due("10 from another one alone", x.at(1, 1), 2);
        due("11 not from 0", x.both(0, 0, 1, 1), 0);
        due("18 to 0", x.given(0), 0);
        due("18 to 1", x.given(1), 1);
        due("18 to 2", x.given(2), 2);
        Due.textOf(x, "hold 0;limit 9;");
        x.law(0, 0, 1);
        x.law(1, 0, 1);
        due("19 no link from 0", x.claim(0), 0);
        due("19 a link from 1", x.claim(1), 1);
        x.forge(1, 1);
        x.paper(5, 2, 0, 2, 0);
        // 000 011 111 333 444; not 012, 112, 222.
        due("9 none by 2 NOW", x.histories(), 5);
        due("18 to 0", x.given(0), 2);
        due("18 to 1", x.given(1), 1);
        due("19 no link to 2", x.claim(1), 0);
    }

    private static void paperToldIsOfEachEnd() {
        VaseCourt x = new VaseCourt(10);
        x.paper(0, 0, 0, 0, 0);
        x.paper(5, 4, 4, 11, 1);
        int[] least = {0, 0, 0, 0, 0, 0, 1};
        int[] most = {5, 4, 4, 11, 1, 0, 1};
        for (int what = 0; what <= 6; what++) {
            due("5 the least numbers " + what, x.paperTold(0, what), least[what]);
            due("5 the greatest numbers " + what, x.paperTold(1, what), most[what]);
        }
        x.forge(1, 1);
        due("5 it is forged", x.paperTold(1, 5), 1);
        due("5 it does not stand", x.paperTold(1, 6), 0);
        due("5 the other one is not forged", x.paperTold(0, 5), 0);
        due("5 the other one stands", x.paperTold(0, 6), 1);
    }

    private static void historiesAreManyOrOneOrNone() {
        long power = 5;
        for (int left = 0; left < 11; left++) {
            power *= 5;
            due("9 all of " + (2 + left) + " periods", Setups.openAll(left).histories(), power);
        }
        VaseCourt x = new VaseCourt(10);
        x.soil(1);
        due("9 one", x.histories(), 1);
        x.paper(5, 0, 0, 11, 0);
        due("9 none", x.histories(), 0);
        for (int k = 0; k < 12; k++) due("10 none in " + k, x.at(0, k), 0);
        due("11 none", x.both(0, 0, 0, 0), 0);
        due("12 none", x.history(0, 0), NONE);
        due("18 none", x.given(0), 0);
        due("19 none", x.claim(0), 0);
        due("23 none", x.worst(0, 0), 0);
        due("25 none", x.worstOfTwo(0, 0), 0);
    }

    private static void atAndBothAtTheEnds() {
        VaseCourt x = Setups.openAll(10);
        long fifth = 48828125L;
        due("10 the first place", x.at(0, 0), fifth);
        due("10 the last place", x.at(4, 11), fifth);
        due("11 the first and the last", x.both(0, 0, 4, 11), fifth / 5);
        due("11 the last and the first", x.both(4, 11, 0, 0), fifth / 5);
        due("11 the first and itself", x.both(0, 0, 0, 0), fifth);
        due("11 the last and itself", x.both(4, 11, 4, 11), fifth);
        due("11 two lands of the first period", x.both(0, 0, 4, 0), 0);
        due("11 two lands of the last period", x.both(4, 11, 0, 11), 0);
        due("11 one behind the other", x.both(2, 5, 3, 6), fifth / 5);
    }

    /** "as they are rows of numbers, the least first". */
    private static void historyIsOfTheLeastFirst() {
        VaseCourt x = new VaseCourt(1);
        x.way(4, 0, 0, 0);
        x.way(4, 3, 1, 1);
        x.soil(26);
        String[] rows = {"111", "333", "400", "443", "444"};
        for (int i = 0; i < 5; i++) {
            for (int p = 0; p < 3; p++) due("12 history " + i + " in " + p, x.history(i, p), rows[i].charAt(p) - '0');
        }
        due("12 behind the last", x.history(5, 0), NONE);
        due("12 behind the last", x.history(5, 2), NONE);
    }

    /** "HISTORY i (0 .. 9999)", of 10000 in all, of one less, of more. */
    private static void historyHas10000AtMost() {
        VaseCourt x = Setups.openAll(4);
        x.soil(15);
        x.paper(5, 0, 0, 5, 0);
        due("12 ten thousand", x.histories(), 10000);
        int[] first = {0, 0, 0, 0, 0, 1};
        int[] last = {3, 4, 4, 4, 4, 4};
        for (int p = 0; p < 6; p++) {
            due("12 history 0", x.history(0, p), first[p]);
            due("12 history 9999", x.history(9999, p), last[p]);
        }
        due("12 history 10000", x.history(10000, 0), BAD);
        due("12 history -1", x.history(-1, 0), BAD);
        x.paper(5, 0, 0, 0, 0);
        due("12 some less", x.histories(), 7500);
        due("12 the last", x.history(7499, 0), 3);
        due("12 not so many", x.history(7500, 0), NONE);
        due("12 not so many", x.history(9999, 0), NONE);
        x.forge(0, 1);
        x.forge(1, 1);
        due("12 more", x.histories(), 12500);
        due("12 history 9999, whatever follows", x.history(9999, 0), 3);
        due("12 history 10000 is none to ask for", x.history(10000, 0), BAD);
    }

    /** "its WORST is the greater number": of all and none it is all. */
    private static void worstOfAllOrNone() {
        VaseCourt x = new VaseCourt(0);
        x.soil(4);
        due("23 all say yes", x.worst(2, 0), 1);
        due("23 all say no", x.worst(3, 0), 1);
        x.soil(12);
        due("23 as many yes as no", x.worst(2, 0), 1);
        x.soil(28);
        due("23 more no", x.worst(2, 0), 2);
        x.way(2, 3, 0, 0);
        x.way(4, 3, 0, 0);
        due("23 more yes", x.worst(3, 1), 3);
    }

    /** "of like ones of the least PERIOD, the least LAND". */
    private static void theQuestionIsOfTheLeastPeriodThenLand() {
        VaseCourt x = new VaseCourt(0);
        x.way(3, 0, 0, 0);
        x.soil(24);
        // 30 33 44: of 3 and 4 in period 0 and of 0, 3 and 4 in period 1 the worst is 2.
        due("24 the least period, though its land is greater", x.question(), 3);
        x.soil(8);
        // 30 33: none of period 0 parts these.
        due("24 in period 1 the least land", x.question(), 10);
        VaseCourt y = new VaseCourt(10);
        y.soil(16);
        y.way(4, 2, 10, 10);
        due("24 in the last period of all", y.question(), 112);
    }

    /** The one question that is best is the first of all, then the last one. */
    private static void theFirstAndTheLastPlaceAreAskedOf() {
        VaseCourt x = new VaseCourt(1);
        x.soil(7);
        x.way(0, 3, 0, 0);
        for (int land = 0; land < 4; land++) x.way(land, 4, 1, 1);
        x.paper(0, 4, 0, 2, 0);
        // 004 034 114 224: just by 0 in period 0 two are parted from two.
        due("24 of the first place", x.question(), 0);
        due("25 with the first place next", x.worstOfTwo(4, 2), 2);
        VaseCourt y = new VaseCourt(1);
        y.soil(1);
        for (int land = 1; land < 4; land++) y.way(0, land, 0, 0);
        y.way(0, 4, 1, 1);
        y.way(3, 4, 1, 1);
        y.paper(5, 0, 0, 2, 0);
        y.paper(5, 3, 0, 2, 0);
        // 004 011 022 034: just by 4 in period 2.
        due("24 of the last place", y.question(), 24);
        due("25 with the last place next", y.worstOfTwo(0, 0), 2);
    }

    /** "none, if no QUESTION has a WORST below all of them". */
    private static void noQuestionIfNoneIsBelowAll() {
        VaseCourt x = new VaseCourt(5);
        x.soil(2);
        due("24 one history", x.question(), NONE);
        due("26 one history", x.firstOfTwo(), NONE);
        x.soil(0);
        due("24 no history", x.question(), NONE);
        due("26 no history", x.firstOfTwo(), NONE);
        x.soil(18);
        due("24 two", x.question(), 1);
        // Any question ahead of one that parts the two is as good as that one.
        due("26 two", x.firstOfTwo(), 0);
    }

    /** "the greater one, for yes and for no, of: the least WORST that any QUESTION has among those HISTORIES". */
    private static void worstOfTwoOfFew() {
        VaseCourt x = new VaseCourt(0);
        int[] soils = {0, 1, 3, 7, 15, 31};
        // That says no to all leaves all, of which the next one leaves all but one, but of two one.
        int[] ofNone = {0, 1, 1, 2, 3, 4};
        // That parts one from the others leaves these, of which the next one leaves all but one.
        int[] ofOne = {0, 1, 1, 1, 2, 3};
        for (int k = 0; k < soils.length; k++) {
            x.soil(soils[k]);
            due("25 of soil " + soils[k], x.worstOfTwo(0, 0), ofOne[k]);
            if (soils[k] != 31) due("25 that parts none, soil " + soils[k], x.worstOfTwo(4, 1), ofNone[k]);
        }
    }

    /** "of like ones likewise". */
    private static void theFirstOfTwoIsOfTheLeastPeriodThenLand() {
        VaseCourt x = new VaseCourt(0);
        x.way(3, 0, 0, 0);
        x.soil(24);
        // 30 33 44: one that parts two from one leaves one by the next; 0, 1 and 2 in period 0 leave two.
        due("26 asked of what parts none", x.worstOfTwo(0, 0), 2);
        due("26 asked of 0 in period 1", x.worstOfTwo(0, 1), 1);
        due("26 the least period, though its land is greater", x.firstOfTwo(), 3);
        VaseCourt y = new VaseCourt(0);
        y.soil(16);
        y.way(4, 1, 0, 0);
        y.way(4, 3, 0, 0);
        // 41 43 44: none of period 0 parts these.
        due("26 in period 1 the least land", y.firstOfTwo(), 11);
    }

    /** "A PAPER taken for one of KIND k, or one under that one (also by others between): its a". */
    private static void takenByOthersBetween() {
        VaseCourt x = new VaseCourt(0);
        x.paper(3, 4, 0, 0, 0);
        x.paper(4, 0, 4, 0, 0);
        due("39 a deed for a photo, by a letter between", x.taken(0, 0), 4);
        due("39 a seal for a photo, by a stamp between", x.taken(1, 0), 0);
        due("39 a deed for a stamp", x.taken(0, 2), -13);
        due("39 a seal for a letter", x.taken(1, 1), -13);
        due("39 a deed for a rumour", x.taken(0, 5), -13);
    }
}
