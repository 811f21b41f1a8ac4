import java.util.List;

/** The edges that the document's words name of the tape, texts, laws, and to whom the thing is given. */
public final class LawEdgeTest {
    private static final int BAD = -2, FULL = -4;
    private static final int MIN = Integer.MIN_VALUE, MAX = Integer.MAX_VALUE;
    private static final List<String> NAMES = List.of("from", "to", "period", "now", "papers", "open");
    private static final List<String> KEYS = List.of("hold", "limit", "or", "and", "not");
    private static final Due DUE = new Due();

    public static void main(String[] args) {
        theTapeHas160BytesAtMost();
        bytesComeLowestFirst();
        aTextOf160Bytes();
        theTapeIsEmptyByAFaultToo();
        blanksAre32And10();
        signsWordsAndNumbersByTheirBytes();
        numbersHave4DigitsAtMost();
        tokensAreAsLongAsCanBe();
        wordsAreKeysOrNames();
        keysStandWhereTheyMay();
        theTextsSizeIfItEndsTooEarly();
        anythingBehindTheEnd();
        compareOnce();
        notStandsAtTheHeadAlone();
        fiveAreOpenAtMost();
        openTillItEnds();
        intsWrap();
        whatIsNotZeroIsTrue();
        signsBindInTheirOrder();
        textsAreSixAtMost();
        lawsAreTwentyAtMost();
        theLawOfTheGreatestFirstPeriod();
        aLinkHoldsIfHoldIsNotZero();
        aLinkIsAliveUpToItsLimit();
        theLawIsOfTheFirstLandInThePeriod();
        namesOfALinkAtTheEnds();
        textZeroIsOpenAndFive();
        givenBackByTheFirstLink();
        givenToTheLandOfNow();
        claimByAnyLink();
        judgementsAreTwelveAtMost();
        aJudgementIsKeptAsAllWasThen();
        changedOfEachLand();
        DUE.end();
    }

    private static void due(String call, long got, long want) {
        DUE.is(call, got, want);
    }

    private static void text(String text, int want) {
        due("14 text of " + text, Due.textOf(new VaseCourt(0), text), want);
    }

    private static void fault(String text, int place) {
        text(text, -100 - place);
    }

    /** An E in the place of hold, and in that of limit. */
    private static void faultOfE(String e, int place) {
        fault("hold " + e + ";limit 1;", 5 + place);
        fault("hold 1;limit " + e + ";", 13 + place);
    }

    private static void value(String e, int want) {
        VaseCourt x = new VaseCourt(0);
        due("17 text of " + e, Due.textOf(x, "hold 1 ; limit " + e + ";"), 1);
        x.law(0, 0, 1);
        due("17 value of " + e, x.says(0, 1, 0, 1), want);
    }

    private static String times(int n, String text) {
        return text.repeat(n);
    }

    // ---- the tape

    /** "THE TAPE (160 bytes at most)"; FULL. */
    private static void theTapeHas160BytesAtMost() {
        for (int n = 1; n <= 8; n++) {
            for (int room = 0; room <= 9; room++) {
                VaseCourt x = new VaseCourt(0);
                Due.feedAll(x, times(160 - room, " "));
                due("13 bytes", x.count(9), 160 - room);
                due("13 feed " + n + " where " + room + " have room", x.feed(n, 0), n <= room ? 160 - room + n : FULL);
                due("13 bytes then", x.count(9), n <= room ? 160 - room + n : 160 - room);
            }
        }
    }

    /** "The n lowest bytes of a number, the lowest first, come behind THE TAPE". */
    private static void bytesComeLowestFirst() {
        for (int n = 1; n <= 8; n++) {
            VaseCourt x = new VaseCourt(0);
            // Blanks in the n lowest bytes, byte 255 in all above.
            due("13 feed " + n, x.feed(n, n == 8 ? 0x2020202020202020L : -1L << 8 * n | 0x2020202020202020L >>> 64 - 8 * n), n);
            due("13 just these came", x.text(), -100 - n);
            // Byte 255 in the highest one alone, or above all that come.
            due("13 feed 8", x.feed(8, ~(-1L << 8 * (n - 1)) & 0x2020202020202020L | -1L << 8 * (n - 1)), 8);
            due("13 the highest came last", x.text(), -100 - (n - 1));
        }
    }

    private static void aTextOf160Bytes() {
        VaseCourt x = new VaseCourt(0);
        due("14 all of it", Due.textOf(x, "hold " + times(72, "1+") + "10;limit 1;"), 1);
        x.law(0, 0, 1);
        due("14 it comes to", x.says(0, 1, 0, 0), 82);
        due("14 a text by its last byte", Due.textOf(x, Setups.textOfSize(160)), 2);
        due("14 blanks to the end", Due.textOf(x, "hold 1;limit 1;" + times(145, "\n")), 3);
        due("14 a fault in the last byte", Due.textOf(x, "hold 1;limit 1;" + times(144, " ") + "?"), -259);
        due("14 too early an end", Due.textOf(x, "hold 1;limit 1" + times(146, " ")), -260);
        due("14 nothing but blanks", Due.textOf(x, times(160, " ")), -260);
        due("14 minus signs", Due.textOf(x, "hold " + times(75, "1-") + ";limit;"), -255);
        due("14 a word of all", Due.textOf(x, times(160, "a")), -100);
        due("14 a number of all", Due.textOf(x, "hold " + times(155, "1")), -105);
        due("14 a sign by itself each", Due.textOf(x, "hold" + times(156, "(")), -109);
        VaseCourt y = new VaseCourt(0);
        for (int k = 1; k <= 5; k++) {
            due("14 each text may be as long", Due.textOf(y, "hold " + times(72, "1+") + "1" + k + ";limit " + k + ";"), k);
        }
        for (int k = 5; k >= 1; k--) {
            y.law(0, 0, k);
            due("17 hold of text " + k, y.says(0, 1, 0, 0), 82 + k);
            due("17 limit of text " + k, y.says(0, 1, 0, 1), k);
        }
    }

    /** "THE TAPE, which is empty then (by a FAULT, too)". */
    private static void theTapeIsEmptyByAFaultToo() {
        VaseCourt x = new VaseCourt(0);
        due("14 a fault", Due.textOf(x, "hold 1;limit 1"), -114);
        due("14 it is empty", x.count(9), 0);
        due("14 nothing is left of it", Due.textOf(x, ";"), -100);
        due("14 a fault takes no number", Due.textOf(x, "hold 1;limit 1;"), 1);
        due("14 it is empty", x.count(9), 0);
        due("14 an empty one", x.text(), -100);
        due("14 texts", x.count(8), 2);
    }

    // ---- tokens

    /** "blanks (32, 10) may stand between": no other byte is one. */
    private static void blanksAre32And10() {
        for (int b = 0; b < 256; b++) {
            String c = String.valueOf((char) b);
            boolean blank = b == 32 || b == 10;
            text("hold 1;limit 1;" + c, blank ? 1 : -115);
            text(c + "hold 1;limit 1;", blank ? 1 : -100);
            text("hold 1;" + c + "limit 1;", blank ? 1 : -107);
            text(c, blank ? -101 : -100);
        }
    }

    /** What each byte is between two digits. */
    private static void signsWordsAndNumbersByTheirBytes() {
        for (int b = 0; b < 256; b++) {
            char c = (char) b;
            int want = -106;
            if (c >= '0' && c <= '9' || "+-*<=".indexOf(c) >= 0) want = 1;
            else if (c == ' ' || c == '\n' || c == ';') want = -107;
            text("hold 1" + c + "2;limit 1;", want);
        }
    }

    /** "NUMBERS (as many digits as stand there, 4 at most)". */
    private static void numbersHave4DigitsAtMost() {
        value("0", 0);
        value("0000", 0);
        value("0009", 9);
        value("9999", 9999);
        value("9999+1", 10000);
        faultOfE("00000", 0);
        faultOfE("00009", 0);
        faultOfE("10000", 0);
        faultOfE("99999", 0);
        faultOfE("1234567890123456789012345", 0);
        faultOfE("1 + 12345", 4);
        faultOfE("1234 5", 5);
        faultOfE("12345 ?", 0);
    }

    /** "each as long as can be": a word ends at what is no letter, a number at what is no digit. */
    private static void tokensAreAsLongAsCanBe() {
        text("hold1;limit2;", 1);
        text("hold not1or not 2and 3;limit open<now;", 1);
        fault("hold1limit2;", 5);
        faultOfE("notnot 1", 0);
        faultOfE("not1 2", 5);
        faultOfE("now1", 3);
        faultOfE("1now", 1);
        faultOfE("1or2and", 7);
        faultOfE("1orfrom", 1);
        faultOfE("1 or2 andto", 6);
        faultOfE("1<=2", 2);
        faultOfE("1==2", 2);
        fault("holdopen;limit 5;", 0);
        fault("hold open;limit5 ;limit", 18);
        fault("limithold", 0);
    }

    /** "a WORD that is neither KEY nor NAME". */
    private static void wordsAreKeysOrNames() {
        for (String name : NAMES) {
            text("hold " + name + ";limit " + name + ";", 1);
            faultOfE(name.substring(1), 0);
            faultOfE(name.substring(0, name.length() - 1), 0);
            faultOfE(name + "s", 0);
            faultOfE("a" + name, 0);
            faultOfE(name.substring(0, 1).toUpperCase() + name.substring(1), 0);
            faultOfE("1+" + name + "z", 2);
            for (String other : NAMES) faultOfE(name + other, 0);
        }
        for (String key : KEYS) {
            faultOfE("1 " + key + "a 1", 2);
            faultOfE("1 " + key.substring(1) + " 1", 2);
            faultOfE("1 " + key.substring(0, key.length() - 1) + " 1", 2);
            faultOfE("1 " + key.toUpperCase() + " 1", 2);
        }
        for (char letter = 'a'; letter <= 'z'; letter++) faultOfE(String.valueOf(letter), 0);
    }

    /** A KEY is no NAME, and a NAME no KEY. */
    private static void keysStandWhereTheyMay() {
        for (String key : KEYS) {
            faultOfE(key, key.equals("not") ? 3 : 0);
            faultOfE("1 + " + key + " 1", 4);
            faultOfE("- " + key + " 1", 2);
            boolean joins = key.equals("or") || key.equals("and");
            text("hold 1 " + key + " 1;limit 1;", joins ? 1 : -107);
            if (!key.equals("hold")) fault(key + " 1;limit 1;", 0);
            if (!key.equals("limit")) fault("hold 1;" + key + " 1;", 7);
        }
        for (String name : NAMES) {
            fault(name + " 1;limit 1;", 0);
            fault("hold 1;" + name + " 1;", 7);
            faultOfE("1 " + name + " 1", 2);
            faultOfE(name + " " + name, name.length() + 1);
            faultOfE("(" + name + ")" + name, name.length() + 2);
        }
    }

    /** "the text's size, if it ends too early": at each place where it can be cut, with blanks behind it or not. */
    private static void theTextsSizeIfItEndsTooEarly() {
        String whole = "hold not(from+-2*to)<3 or 1 and now=0;limit(((5)));";
        // Cut inside of a word, this is a token that can't stand, but for those that are shorter words.
        for (int end = 0; end <= whole.length(); end++) {
            String cut = whole.substring(0, end);
            int size = cut.length();
            while (size > 0 && Character.isLetter(cut.charAt(size - 1))) size--;
            String word = cut.substring(size);
            boolean isWord = word.isEmpty() || NAMES.contains(word) || KEYS.contains(word);
            for (int blanks = 0; blanks < 3; blanks++) {
                int want = end == whole.length() ? 1 : isWord ? -100 - end - blanks : -100 - size;
                text(cut + times(blanks, " "), want);
            }
        }
    }

    private static void anythingBehindTheEnd() {
        for (String more : List.of(";", "1", "hold", "limit", "hold 1;limit 1;", "(", "-", "now", "x", "or 1", "+1")) {
            fault("hold 1;limit 1;" + more, 15);
            fault("hold 1;limit 1;\n " + more, 17);
        }
    }

    // ---- what stands where

    /** "SUM, perhaps < or = and a SUM": one of these, but one more inside of ( ). */
    private static void compareOnce() {
        faultOfE("1<2<3", 3);
        faultOfE("1<2=3", 3);
        faultOfE("1=2<3", 3);
        faultOfE("1=2=3", 3);
        faultOfE("not 1<2=3", 7);
        faultOfE("(1<2=3)", 4);
        faultOfE("<2", 0);
        faultOfE("1<", 2);
        value("(1<2)<3", 1);
        value("3<(2<1)", 0);
        value("1<2 and 2<3", 1);
        value("1<2 or 2=3", 1);
        value("(1=2)=(3=4)", 1);
    }

    /** "NOT: not NOT, or SUM": none behind a sign. */
    private static void notStandsAtTheHeadAlone() {
        for (String sign : List.of("+", "-", "*", "<", "=")) {
            faultOfE("1" + sign + "not 1", 2);
            text("hold 1" + sign + "(not 1);limit 1;", 1);
        }
        faultOfE("-not 1", 1);
        faultOfE("- - not 1", 4);
        faultOfE("1 not 1", 2);
        value("-(not 0)", -1);
        value("1 and not 0 or not 1", 1);
        value("(not(not 0))", 0);
    }

    /** "a ( , a not, a - ahead of a ONE while 5 of these are open": each row of six of them that may stand so. */
    private static void fiveAreOpenAtMost() {
        String[] kinds = {"(", "not ", "-"};
        for (int row = 0; row < 729; row++) {
            StringBuilder five = new StringBuilder();
            StringBuilder ends = new StringBuilder();
            int left = row;
            boolean may = true;
            int last = 0;
            for (int k = 0; k < 6; k++) {
                int kind = left % 3;
                left /= 3;
                if (k > 0 && last == 2 && kind == 1) may = false;
                last = kind;
                if (k == 5) break;
                five.append(kinds[kind]);
                if (kind == 0) ends.append(')');
            }
            if (!may) continue;
            text("hold " + five + "1" + ends + ";limit " + five + "1" + ends + ";", 1);
            faultOfE(five + kinds[last] + "1" + ends, five.length());
        }
        for (int n = 1; n <= 150; n++) {
            text("hold " + times(n, "-") + "1", n > 5 ? -110 : -106 - n);
        }
    }

    /** "(a ( till its ) , not and - till what they belong to ends)". */
    private static void openTillItEnds() {
        // A - belongs to its ONE: what follows that is ahead of no open one any more.
        text("hold -----1 + -----1 * -----1 < -----1 = 1;limit 1;", -139);
        text("hold -----1 + -----1 * -----1 < -----1;limit -----1;", 1);
        text("hold ----(1) - ----(1);limit ---(-1);", 1);
        faultOfE("---(-1) + ---(--1)", 15);
        // A ( till its ) .
        text("hold (((((1)))))*(((((1))))) or (((((1)))));limit 1;", 1);
        faultOfE("(((((1)))+((1))*((((1))))))", 19);
        text("hold (((((1)))+((1))*(((1)))));limit 1;", 1);
        text("hold ((((1)+(1))*(1)+((1))+((1))));limit 1;", 1);
        // A not belongs to a NOT, with its < and both of its SUMS, up to and, or, ) , ; .
        text("hold not not not not not 1 and not not not not not 1 or (((((1)))));limit (((((1)))));", 1);
        text("hold not not not not 1 < -1;limit 1;", 1);
        faultOfE("not not not not not 1 < -1", 24);
        faultOfE("not not not not not 1 + -1", 24);
        faultOfE("not not not not not 1 * (1)", 24);
        faultOfE("not not not not -1 = --1", 22);
        text("hold not not not not -1 = -1;limit 1;", 1);
        text("hold not(not not not 1)and not(not not not 1);limit 1;", 1);
        text("hold (not not not not 1)+(----1);limit 1;", 1);
        faultOfE("(not not not not 1+-1)", 19);
        faultOfE("(not(not 1 or -1)and(not(-1)<(-(-1))))", 31);
        text("hold (not(not 1 or -1)and(not(-1)<((1))));limit 1;", 1);
        // A sign between two terms is no - ahead of a ONE.
        value("(((((7 - 1)))))", 6);
        value("(((((7 + 1)))))", 8);
    }

    // ---- values

    /** "An E is an int (32 bits, wrapping)". */
    private static void intsWrap() {
        String least = "8192*8192*32";
        value(least, MIN);
        value(least + "-1", MAX);
        value(least + "-1+1", MIN);
        value("-(" + least + ")", MIN);
        value("-(" + least + "-1)", -MAX);
        value("(" + least + ")+(" + least + ")", 0);
        value("(" + least + ")*2", 0);
        value("(" + least + "-1)*2", -2);
        value("(" + least + "-1)*(" + least + "-1)", 1);
        value("0-(" + least + ")", MIN);
        value("-1-(" + least + ")", MAX);
        value("9999*9999*9999*9999", (int) (9999L * 9999L * 9999L * 9999L));
        value("8192*8192*64", 0);
        value(least + "<" + least + "-1", 1);
        value(least + "-1<" + least, 0);
        value(least + "<" + least, 0);
        value("-(" + least + ")=" + least, 1);
        value("0<" + least, 0);
        value(least + "<0", 1);
        value(least + "-1<0", 0);
    }

    /** "of or, and, not, <, = 1 or 0 (what is not 0 is true)". */
    private static void whatIsNotZeroIsTrue() {
        String[] truths = {"1", "2", "-1", "9999", "8192*8192*32", "8192*8192*32-1"};
        String[] falsehoods = {"0", "-0", "1-1", "8192*8192*64", "2<1", "not 3"};
        for (String yes : truths) {
            value("not " + yes, 0);
            value("not not " + yes, 1);
            value(yes + " and " + yes, 1);
            value("0 or " + yes, 1);
            value(yes + " or 0", 1);
            for (String no : falsehoods) {
                value(yes + " or " + no, 1);
                value(no + " or " + yes, 1);
                value(yes + " and " + no, 0);
                value(no + " and " + yes, 0);
            }
        }
        for (String no : falsehoods) {
            value("not (" + no + ")", 1);
            value(no + " or " + no, 0);
            value(no + " and " + no, 0);
        }
        value("7", 7);
        value("-7", -7);
        value("(7)", 7);
    }

    private static void signsBindInTheirOrder() {
        value("1+2*3-4*5+6", -7);
        value("9-5-3", 1);
        value("9-(5-3)", 7);
        value("2*3*4", 24);
        value("-2*-3", 6);
        value("-2+3", 1);
        value("1+1=2", 1);
        value("2=1+1", 1);
        value("0 and 1 or 1", 1);
        value("1 or 1 and 0", 1);
        value("(1 or 1) and 0", 0);
        value("not 0 and 0", 0);
        value("not 0 or 1", 1);
        value("not 1=0", 1);
        value("(not 1)=1", 0);
    }

    // ---- texts and laws

    /** "There are 6 TEXTS at most, TEXT 0 with them". */
    private static void textsAreSixAtMost() {
        VaseCourt x = new VaseCourt(0);
        for (int k = 1; k <= 5; k++) {
            due("15 text " + k + " is not there yet", x.law(0, 0, k), BAD);
            due("14 text " + k, Due.textOf(x, "hold " + k + ";limit 1;"), k);
            due("14 texts", x.count(8), k + 1);
            due("15 a law of it", x.law(0, 0, k), k - 1);
            due("17 it says", x.says(0, 1, 0, 0), k);
        }
        due("14 one too many", Due.textOf(x, "hold 6;limit 1;"), FULL);
        due("14 texts", x.count(8), 6);
        due("14 the tape stays", x.count(9), 15);
        due("15 text 6", x.law(0, 0, 6), BAD);
        due("15 text 5", x.law(0, 0, 5), 5);
    }

    /** "LAWS (20 at most)". */
    private static void lawsAreTwentyAtMost() {
        VaseCourt x = new VaseCourt(1);
        for (int k = 1; k <= 2; k++) Due.textOf(x, "hold " + k + ";limit 1;");
        for (int k = 0; k < 19; k++) due("15 law " + k, x.law(0, 0, 1), k);
        due("15 the last law there may be", x.law(4, 2, 2), 19);
        due("16 it is the law", x.lawOf(4, 2), 2);
        due("15 one too many", x.law(3, 0, 2), FULL);
        due("16 which is no law", x.lawOf(3, 2), 0);
        due("15 laws", x.count(4), 20);
    }

    /** "whose first PERIOD is the greatest that is not above it, of like ones the one told last; TEXT 0 without any". */
    private static void theLawOfTheGreatestFirstPeriod() {
        VaseCourt x = new VaseCourt(2);
        for (int k = 1; k <= 4; k++) Due.textOf(x, "hold " + k + ";limit 1;");
        x.law(1, 3, 1);
        lawsAre(x, 1, 0, 0, 0, 1);
        x.law(1, 0, 2);
        lawsAre(x, 1, 2, 2, 2, 1);
        x.law(1, 2, 3);
        lawsAre(x, 1, 2, 2, 3, 1);
        x.law(1, 0, 4);
        lawsAre(x, 1, 4, 4, 3, 1);
        x.law(1, 3, 3);
        x.law(1, 3, 2);
        lawsAre(x, 1, 4, 4, 3, 2);
        x.law(1, 0, 0);
        lawsAre(x, 1, 0, 0, 3, 2);
        for (int land : new int[] {0, 2, 3, 4}) lawsAre(x, land, 0, 0, 0, 0);
    }

    private static void lawsAre(VaseCourt x, int land, int... texts) {
        for (int p = 0; p < texts.length; p++) due("16 law of " + land + " in " + p, x.lawOf(land, p), texts[p]);
    }

    private static VaseCourt oneLink(int number, int period, String hold, String limit) {
        VaseCourt x = new VaseCourt(number);
        x.soil(1);
        x.way(0, 1, period, period);
        due("18 text", Due.textOf(x, "hold " + hold + ";limit " + limit + ";"), 1);
        x.law(0, 0, 1);
        return x;
    }

    /** "A LINK HOLDS, if hold of THE LAW ... isn't 0". */
    private static void aLinkHoldsIfHoldIsNotZero() {
        String[] holds = {"1", "-1", "2", "8192*8192*32", "8192*8192*32-1", "2-1"};
        for (String hold : holds) {
            VaseCourt x = oneLink(0, 0, hold, "9");
            due("18 holds by " + hold, x.given(0), 1);
            due("18 it is with land 1", x.given(1), 1);
            due("19 no claim", x.claim(0), 0);
        }
        String[] breaks = {"0", "-0", "1-1", "8192*8192*64", "1<0"};
        for (String hold : breaks) {
            VaseCourt x = oneLink(0, 0, hold, "9");
            due("18 does not hold by " + hold, x.given(0), 2);
            due("18 nor is it with land 1", x.given(1), 0);
            due("19 a claim", x.claim(0), 1);
        }
    }

    /** "It is ALIVE, if NOW less its PERIOD isn't above limit of that LAW." */
    private static void aLinkIsAliveUpToItsLimit() {
        for (int left = 0; left < 11; left++) {
            for (int period = 0; period <= left; period++) {
                int age = 1 + left - period;
                due("18 limit is its age", oneLink(left, period, "0", "" + age).given(1), 0);
                due("18 limit is below its age", oneLink(left, period, "0", "" + (age - 1)).given(1), 1);
                due("19 limit is its age", oneLink(left, period, "0", "" + age).claim(0), 1);
                due("19 limit is below its age", oneLink(left, period, "0", "" + (age - 1)).claim(0), 0);
                due("18 limit of now - period", oneLink(left, period, "0", "now-period").given(1), 0);
                due("18 limit of now - period - 1", oneLink(left, period, "0", "now-period-1").given(1), 1);
            }
        }
        due("18 limit below 0", oneLink(0, 0, "0", "-1").given(1), 1);
        due("18 the least limit", oneLink(0, 0, "0", "8192*8192*32").given(1), 1);
        due("18 the greatest limit", oneLink(0, 0, "0", "8192*8192*32-1").given(1), 0);
    }

    /** "hold of THE LAW of its first LAND in its PERIOD". */
    private static void theLawIsOfTheFirstLandInThePeriod() {
        VaseCourt x = new VaseCourt(1);
        x.soil(1);
        x.way(0, 1, 0, 1);
        Due.textOf(x, "hold 0;limit 9;");
        x.law(1, 0, 1);
        due("18 not that of its second land", x.given(1), 2);
        x.law(0, 2, 1);
        due("18 not that of the next period", x.given(1), 2);
        x.law(0, 1, 1);
        // 000 001 011: the link of 001 is of period 1.
        due("18 that of its period", x.given(1), 1);
        x.law(0, 0, 1);
        due("18 from period 0 on", x.given(1), 0);
    }

    private static void namesOfALinkAtTheEnds() {
        VaseCourt x = new VaseCourt(10);
        for (int k = 0; k < 20; k++) x.way(4, 0, 10, 10);
        for (int k = 0; k < 16; k++) x.paper(0, 0, 0, 0, 0);
        Due.textOf(x, "hold from*1000+to*100+period;limit now*1000+papers*100+open;");
        for (int land = 0; land < 5; land++) x.law(land, 0, 1);
        due("17 the last link", x.says(4, 0, 10, 0), 4010);
        due("17 the last link", x.says(4, 0, 10, 1), 11000 + 1600 + 20);
        due("17 the first link", x.says(0, 4, 0, 0), 400);
        due("17 the first link", x.says(0, 4, 0, 1), 11000 + 1600);
        for (int k = 0; k < 16; k++) {
            x.forge(k, 1);
            due("17 how many stand", x.says(4, 0, 9, 1), 11000 + 100 * (15 - k));
        }
    }

    /** "TEXT 0 is: hold open ; limit 5 ;". */
    private static void textZeroIsOpenAndFive() {
        VaseCourt x = new VaseCourt(10);
        due("17 limit", x.says(0, 1, 0, 1), 5);
        due("17 open none", x.says(0, 1, 0, 0), 0);
        x.way(0, 1, 0, 0);
        x.way(0, 1, 0, 0);
        due("17 open two", x.says(0, 1, 0, 0), 2);
        due("17 a link for which none is open", x.says(0, 1, 1, 0), 0);
        due("17 the other way round", x.says(1, 0, 0, 0), 0);
    }

    /** "GIVEN BACK to the LAND from which the first LINK goes that doesn't HOLD and is ALIVE". */
    private static void givenBackByTheFirstLink() {
        VaseCourt x = new VaseCourt(1);
        x.soil(1);
        x.way(0, 1, 0, 0);
        x.way(1, 2, 1, 1);
        x.paper(0, 2, 0, 2, 0);
        // 012 alone.
        Due.textOf(x, "hold 0;limit 2;");
        Due.textOf(x, "hold 0;limit 1;");
        Due.textOf(x, "hold 1;limit 2;");
        int[] given = {0, 0, 0};
        int[][] laws = {{1, 1, 0}, {1, 2, 0}, {2, 1, 1}, {2, 2, 1}, {3, 1, 1}, {3, 3, 2}, {1, 3, 0}, {2, 3, 2}};
        for (int[] law : laws) {
            x.law(0, 0, law[0]);
            x.law(1, 0, law[1]);
            for (int land = 0; land < 3; land++) {
                given[land] = law[2] == land ? 1 : 0;
                due("18 by texts " + law[0] + ", " + law[1] + " to " + land, x.given(land), given[land]);
            }
        }
    }

    /** "if there is none, it stays with the LAND of NOW". */
    private static void givenToTheLandOfNow() {
        VaseCourt x = new VaseCourt(10);
        x.way(0, 1, 10, 10);
        due("18 with 0", x.given(0), 1);
        due("18 with 1", x.given(1), 2);
        for (int land = 2; land < 5; land++) due("18 with " + land, x.given(land), 1);
        Due.textOf(x, "hold 0;limit 0;");
        x.law(0, 0, 1);
        due("18 not alive", x.given(1), 2);
        Due.textOf(x, "hold 0;limit 1;");
        x.law(0, 0, 2);
        due("18 given back", x.given(1), 1);
        due("18 given back", x.given(0), 2);
    }

    /** "if a LINK from it (any one) doesn't HOLD and is ALIVE": a HISTORY counts once. */
    private static void claimByAnyLink() {
        VaseCourt x = new VaseCourt(2);
        x.soil(1);
        x.way(0, 1, 0, 0);
        x.way(1, 0, 1, 1);
        x.way(0, 1, 2, 2);
        x.paper(0, 1, 0, 1, 0);
        x.paper(0, 0, 0, 2, 0);
        x.paper(0, 1, 0, 3, 0);
        // 0101 alone.
        Due.textOf(x, "hold 0;limit 3;");
        Due.textOf(x, "hold 0;limit 1;");
        x.law(0, 0, 1);
        due("19 by both of its links, once", x.claim(0), 1);
        due("19 of 1 all hold", x.claim(1), 0);
        x.law(1, 0, 1);
        due("19 also behind the link that gave back", x.claim(1), 1);
        due("19 given back once", x.given(0), 1);
        x.law(0, 0, 2);
        due("19 by the second alone", x.claim(0), 1);
        due("18 to 1 then", x.given(1), 1);
        for (int land = 2; land < 5; land++) due("19 of a land without a link", x.claim(land), 0);
    }

    /** "A JUDGEMENT (12 at most are kept, numbered from 0)". */
    private static void judgementsAreTwelveAtMost() {
        VaseCourt x = new VaseCourt(0);
        for (int k = 0; k < 12; k++) {
            x.soil(k + 1);
            due("20 judgement " + k, x.judge(), k);
        }
        x.soil(31);
        due("20 one too many", x.judge(), FULL);
        for (int k = 0; k < 12; k++) {
            for (int land = 0; land < 5; land++) due("21 judgement " + k, x.judged(k, land), k + 1 >> land & 1);
            due("22 judgement " + k, x.changed(k), 31 & ~(k + 1));
        }
    }

    /** "in how many HISTORIES the thing is GIVEN to each LAND, as all is then". */
    private static void aJudgementIsKeptAsAllWasThen() {
        VaseCourt x = new VaseCourt(0);
        x.way(0, 1, 0, 0);
        x.judge();
        Due.textOf(x, "hold 0;limit 1;");
        x.law(0, 0, 1);
        x.judge();
        x.paper(0, 1, 0, 1, 0);
        x.judge();
        x.forge(0, 1);
        x.judge();
        long[][] kept = {{1, 2}, {2, 1}, {1, 1}, {2, 1}};
        for (int k = 0; k < 4; k++) {
            due("21 to 0 by " + k, x.judged(k, 0), kept[k][0]);
            due("21 to 1 by " + k, x.judged(k, 1), kept[k][1]);
        }
    }

    /** "LANDS (bits) for which a JUDGEMENT would be another number now". */
    private static void changedOfEachLand() {
        VaseCourt x = new VaseCourt(0);
        x.soil(0);
        x.judge();
        for (int lands = 0; lands < 32; lands++) {
            x.soil(lands);
            due("22 of none, soil " + lands, x.changed(0), lands);
        }
        x.judge();
        due("22 of all", x.changed(1), 0);
        x.soil(0);
        due("22 all have changed", x.changed(1), 31);
        due("22 back again", x.changed(0), 0);
    }
}
